import java.io.IOException;
import java.nio.file.Files;
import java.nio.file.Path;

// What the tests of single sentences share: each test says for which promise and which sentence it is,
// and what in it is not as due is told with both.
final class Due {
    static final int MAX = Integer.MAX_VALUE, MIN = Integer.MIN_VALUE;
    static final String RULE = "heats 1;calms 2;feels 3;";

    private static final String DOC = document();
    private static String where = "";
    private static int tests = 0;
    private static int wrong = 0;

    private Due() {
    }

    static void sentence(int promise, String words, Runnable test) {
        where = (promise == 0 ? "the face" : "promise " + promise) + ", \"" + words + "\"";
        tests++;
        if (!DOC.isEmpty() && !DOC.contains(words)) {
            report("these words are not the document's");
        }
        try {
            test.run();
        } catch (RuntimeException | StackOverflowError thrown) {
            report("a call threw " + thrown);
        }
    }

    static void is(String call, long got, long want) {
        if (got != want) {
            report(call + " answered " + got + ", due is " + want);
        }
    }

    static void report(String what) {
        wrong++;
        System.out.println(where + ": " + what);
    }

    static void end() {
        System.out.println(wrong == 0 ? tests + " sentences hold" : wrong + " answers are not as due");
        if (wrong != 0) {
            System.exit(1);
        }
    }

    private static String document() {
        try {
            return Files.readString(Path.of("../shared/DOC.md"));
        } catch (IOException e) {
            System.out.println("the document is not at hand: its words are not compared");
            return "";
        }
    }

    // ---- objects to begin with

    static int[] g(int kind, int number, int thing) {
        return new int[] {kind, number, thing};
    }

    static SewnUp house(int[]... grooms) {
        SewnUp x = new SewnUp();
        come(x, grooms);
        return x;
    }

    static void come(SewnUp x, int[]... grooms) {
        for (int[] groom : grooms) {
            x.groom(groom[0], groom[1], groom[2]);
        }
    }

    static SewnUp alike(int many) {
        SewnUp x = new SewnUp();
        for (int i = 0; i < many; i++) {
            x.groom(0, 0, 0);
        }
        return x;
    }

    static void feed(SewnUp x, String letters) {
        for (int i = 0; i < letters.length(); i++) {
            x.feed(letters.charAt(i));
        }
    }

    /** An object with a text of its own as THE RULE, and then these GROOMS. */
    static SewnUp ruled(String letters, int[]... grooms) {
        SewnUp x = new SewnUp();
        force(x, letters);
        come(x, grooms);
        return x;
    }

    static void force(SewnUp x, String letters) {
        feed(x, letters);
        int text = x.text();
        if (text < 0) {
            report("text() of '" + letters + "' answered " + text);
        }
        x.force(text);
    }

    static void row(SewnUp x, int sheet, int sort, int... items) {
        x.sheet(sheet, sort, items.length);
        for (int i = 0; i < items.length; i++) {
            x.cell(sheet, i, items[i]);
        }
    }

    static int bound(int v) {
        return Math.max(0, Math.min(99, v));
    }
}
