import java.util.ArrayList;
import java.util.List;
import java.util.function.Supplier;

// "Refusals ...; they change nothing": each refused call of each promise is made of an object, and its twin is
// not asked; both must answer alike ever after. So too for what is asked in thought, and for what changes one
// thing alone.
public final class RefusalTest {
    private static final String NOTHING = "Refusals, the first that the call's words name; they change nothing";

    private interface Call {
        long of(SewnUp x);
    }

    // ---- objects that have much to lose

    private static SewnUp fresh() {
        return new SewnUp();
    }

    /** Three GROOMS, a text forced, a piece of a text on the tape, rows of every sort, an image of two GROOMS. */
    private static SewnUp usual() {
        SewnUp x = Due.ruled("heats 9+own;calms thing;feels thing+number;", Due.g(1, 2, 9), Due.g(4, 1, 13));
        x.set(0, 0, 41);
        x.set(1, 0, 33);
        x.change(0, 1);
        x.image();
        x.groom(3, 8, 10);
        x.change(1, 2);
        x.set(4, 0, 77);
        Due.row(x, 0, 0, 1, 2, 3, 5, 9, 15, 4, 0, 0);
        Due.row(x, 1, 1, 15, 1, 18);
        Due.row(x, 2, 2, 3, 4, 5, 0, 0, 1);
        x.set(2, 0, 3);
        Due.feed(x, "heats 1;calms");
        return x;
    }

    /** Six GROOMS on the last DAY. */
    private static SewnUp crowded() {
        SewnUp x = new SewnUp();
        for (int g = 0; g < 6; g++) {
            x.groom(5 - g, g + 4, g + 8);
            x.set(4, g, 16 * g);
        }
        x.image();
        x.change(0, 4);
        x.change(4, 3);
        x.set(0, 0, 999);
        x.film(0);
        x.sheet(3, 2, 40);
        return x;
    }

    /** A tape as long as can be. */
    private static SewnUp longTape() {
        SewnUp x = Due.house(Due.g(0, 1, 2), Due.g(1, 3, 4));
        Due.feed(x, Due.RULE);
        for (int i = Due.RULE.length(); i < 160; i++) {
            x.feed(i == 155 ? 'A' : ' ');
        }
        return x;
    }

    /** As many texts as can be, and one more on the tape. */
    private static SewnUp manyTexts() {
        SewnUp x = Due.house(Due.g(0, 1, 2), Due.g(1, 3, 4));
        for (int i = 1; i < 6; i++) {
            Due.feed(x, "heats " + i + ";calms 1;feels 2;");
            x.text();
        }
        x.force(4);
        Due.feed(x, "heats 9;calms 9;feels 9;");
        return x;
    }

    // ---- all that can be seen of an object; it is used up by that

    private static final class Look {
        final SewnUp x;
        final List<String> seen = new ArrayList<>();

        Look(SewnUp x) {
            this.x = x;
        }

        void see(String call, long answer) {
            seen.add(call + " -> " + answer);
        }

        List<String> all() {
            house("now");
            sheets();
            see("back()", x.back());
            house("behind back()");
            rows();
            texts();
            return seen;
        }

        private void house(String when) {
            for (int what = 0; what < 6; what++) {
                see(when + " count(" + what + ")", x.count(what));
            }
            see(when + " DAY", x.told(0, 0));
            see(when + " LIMIT", x.told(0, 1));
            for (int g = 0; g < 6; g++) {
                for (int what = 2; what < 7; what++) {
                    see(when + " told(" + g + ", " + what + ")", x.told(g, what));
                }
            }
        }

        private void sheets() {
            int[] sizes = {1, 2, 3, 6, 9, 40};
            for (int s = 0; s < 4; s++) {
                see("tells(" + s + ", 0)", x.tells(s, 0));
                for (int sort = 0; sort < 3; sort++) {
                    see("grooms(" + s + ", " + sort + ", 0, 0)", x.grooms(s, sort, 0, 0));
                }
                for (int n : sizes) {
                    see("copy(" + s + ", 0, " + s + ", 0, " + n + ")", x.copy(s, 0, s, 0, n));
                }
            }
        }

        /** The first items of each row, as GROOMS. */
        private void rows() {
            if (x.count(0) > 3) {
                return;
            }
            x.image();
            for (int s = 0; s < 4; s++) {
                int at = x.count(0);
                for (int sort = 0; sort < 3; sort++) {
                    see("grooms(" + s + ", " + sort + ", 0, 3)", x.grooms(s, sort, 0, 3));
                }
                for (int g = at; g < at + 3; g++) {
                    see("KIND by sheet " + s, x.told(g, 5));
                    see("NUMBER by sheet " + s, x.told(g, 2));
                    see("THING by sheet " + s, x.told(g, 3));
                }
                x.back();
            }
        }

        private void texts() {
            if (x.count(0) == 0) {
                x.groom(0, 0, 5);
            }
            see("text()", x.text());
            for (int text = 0; text < 6; text++) {
                see("force(" + text + ")", x.force(text));
                for (int what = 8; what <= 10; what++) {
                    see("told(0, " + what + ") by TEXT " + text, x.told(0, what));
                }
            }
        }
    }

    private static void alike(String call, SewnUp asked, SewnUp twin) {
        List<String> one = new Look(asked).all();
        List<String> other = new Look(twin).all();
        for (int i = 0; i < Math.min(one.size(), other.size()); i++) {
            if (!one.get(i).equals(other.get(i))) {
                Due.report("behind " + call + ": " + one.get(i) + ", but its twin " + other.get(i));
                return;
            }
        }
        Due.is("what is seen behind " + call, one.size(), other.size());
    }

    private static void refused(Supplier<SewnUp> maker, long answer, String name, Call call) {
        SewnUp x = maker.get();
        Due.is(name, call.of(x), answer);
        alike(name, x, maker.get());
    }

    private static void leavesAll(Supplier<SewnUp> maker, String name, Call call) {
        SewnUp x = maker.get();
        if (call.of(x) < -1) {
            Due.report(name + " is refused");
        }
        alike(name, x, maker.get());
    }

    // ---- what is refused

    private static void ofGrooms() {
        Due.sentence(2, NOTHING, () -> {
            int[] last = {999, 99, 9, 15, 99};
            for (int k = 0; k < 5; k++) {
                int what = k;
                refused(RefusalTest::usual, -2, "set(" + what + ", 0, last + 1)", x -> x.set(what, 0, last[what] + 1));
                refused(RefusalTest::usual, -2, "set(" + what + ", 0, -1)", x -> x.set(what, 0, -1));
            }
            for (int k = 2; k < 5; k++) {
                int what = k;
                refused(RefusalTest::usual, -2, "set(" + what + ", 3, 1)", x -> x.set(what, 3, 1));
                refused(RefusalTest::usual, -2, "set(" + what + ", -1, 1)", x -> x.set(what, -1, 1));
                refused(RefusalTest::fresh, -2, "set(" + what + ", 0, 1)", x -> x.set(what, 0, 1));
            }
            refused(RefusalTest::usual, -2, "set(5, 0, 1)", x -> x.set(5, 0, 1));
            refused(RefusalTest::usual, -2, "set(-1, 0, 1)", x -> x.set(-1, 0, 1));
        });
        Due.sentence(3, NOTHING, () -> {
            refused(RefusalTest::usual, -2, "groom(6, 0, 0)", x -> x.groom(6, 0, 0));
            refused(RefusalTest::usual, -2, "groom(-1, 0, 0)", x -> x.groom(-1, 0, 0));
            refused(RefusalTest::usual, -2, "groom(0, 10, 0)", x -> x.groom(0, 10, 0));
            refused(RefusalTest::usual, -2, "groom(0, -1, 0)", x -> x.groom(0, -1, 0));
            refused(RefusalTest::usual, -2, "groom(0, 0, 16)", x -> x.groom(0, 0, 16));
            refused(RefusalTest::usual, -2, "groom(0, 0, -1)", x -> x.groom(0, 0, -1));
            refused(RefusalTest::crowded, -4, "groom(0, 0, 0)", x -> x.groom(0, 0, 0));
            refused(RefusalTest::crowded, -2, "groom(6, 0, 0), BAD ahead of FULL", x -> x.groom(6, 0, 0));
            refused(RefusalTest::crowded, -2, "groom(0, 0, 16), BAD ahead of FULL", x -> x.groom(0, 0, 16));
        });
        Due.sentence(4, NOTHING, () -> {
            refused(RefusalTest::usual, -2, "change(0, 0)", x -> x.change(0, 0));
            refused(RefusalTest::usual, -2, "change(0, 3)", x -> x.change(0, 3));
            refused(RefusalTest::usual, -2, "change(3, 0)", x -> x.change(3, 0));
            refused(RefusalTest::usual, -2, "change(-1, 0)", x -> x.change(-1, 0));
            refused(RefusalTest::usual, -2, "change(0, -1)", x -> x.change(0, -1));
            refused(RefusalTest::fresh, -2, "change(0, 1)", x -> x.change(0, 1));
        });
        Due.sentence(5, NOTHING, () -> {
            refused(RefusalTest::usual, -2, "told(0, 11)", x -> x.told(0, 11));
            refused(RefusalTest::usual, -2, "told(0, -1)", x -> x.told(0, -1));
            refused(RefusalTest::usual, -2, "told(3, 8)", x -> x.told(3, 8));
            refused(RefusalTest::usual, -2, "told(-1, 2)", x -> x.told(-1, 2));
        });
    }

    private static void ofTexts() {
        Due.sentence(6, NOTHING, () -> {
            refused(RefusalTest::usual, -2, "feed(-1)", x -> x.feed(-1));
            refused(RefusalTest::usual, -2, "feed(256)", x -> x.feed(256));
            refused(RefusalTest::longTape, -4, "feed(32)", x -> x.feed(32));
            refused(RefusalTest::longTape, -2, "feed(256), BAD ahead of FULL", x -> x.feed(256));
            refused(RefusalTest::longTape, -2, "feed(-1), BAD ahead of FULL", x -> x.feed(-1));
        });
        Due.sentence(7, "FULL (ahead of all): no TEXT more has room (THE TAPE stays).", () -> {
            refused(RefusalTest::manyTexts, -4, "text()", x -> x.text());
            refused(() -> {
                SewnUp x = manyTexts();
                x.feed('A');
                return x;
            }, -4, "text() of what has a FAULT", x -> x.text());
        });
        Due.sentence(7, "THE TAPE, which is empty then (by a FAULT, too)", () -> {
            SewnUp x = Due.house(Due.g(1, 2, 3), Due.g(4, 5, 6));
            Due.feed(x, "heats 9;calms 9;feels 9;A");
            Due.is("text()", x.text(), -124);
            alike("a FAULT", x, Due.house(Due.g(1, 2, 3), Due.g(4, 5, 6)));
            SewnUp y = longTape();
            Due.is("text()", y.text(), -255);
            alike("a FAULT", y, Due.house(Due.g(0, 1, 2), Due.g(1, 3, 4)));
        });
        Due.sentence(8, NOTHING, () -> {
            refused(RefusalTest::usual, -2, "force(2)", x -> x.force(2));
            refused(RefusalTest::usual, -2, "force(-1)", x -> x.force(-1));
            refused(RefusalTest::manyTexts, -2, "force(6)", x -> x.force(6));
        });
    }

    private static void ofDaysAndCoats() {
        Due.sentence(9, NOTHING, () -> refused(RefusalTest::crowded, -3, "day()", x -> x.day()));
        Due.sentence(10, NOTHING, () -> {
            int[][] bad = {{-1, 0}, {41, 0}, {1, -1}, {1, 2}, {1, 9}, {1, 13}, {1, 19}, {1, 23}, {1, 30}};
            for (int[] b : bad) {
                refused(RefusalTest::usual, -2, "run(" + b[0] + ", " + b[1] + ")", x -> x.run(b[0], b[1]));
            }
        });
        Due.sentence(11, NOTHING, () -> {
            refused(RefusalTest::usual, -2, "rings(5)", x -> x.rings(5));
            refused(RefusalTest::usual, -2, "rings(-1)", x -> x.rings(-1));
        });
        Due.sentence(12, NOTHING, () -> {
            refused(RefusalTest::usual, -2, "ring(3)", x -> x.ring(3));
            refused(RefusalTest::fresh, -2, "ring(0)", x -> x.ring(0));
        });
        Due.sentence(13, NOTHING, () -> {
            int[][] bad = {{-1, 0}, {41, 1}, {1, -1}, {1, 2}};
            for (int[] b : bad) {
                refused(RefusalTest::usual, -2, "better(" + b[0] + ", " + b[1] + ")", x -> x.better(b[0], b[1]));
            }
        });
        Due.sentence(14, NOTHING, () -> {
            int[][] bad = {{-1, 0}, {11, 1}, {1, -1}, {1, 2}};
            for (int[] b : bad) {
                refused(RefusalTest::usual, -2, "best(" + b[0] + ", " + b[1] + ")", x -> x.best(b[0], b[1]));
            }
        });
        Due.sentence(15, NOTHING, () -> refused(RefusalTest::usual, -2, "from(3)", x -> x.from(3)));
        Due.sentence(16, NOTHING, () -> {
            refused(RefusalTest::usual, -2, "keys(4)", x -> x.keys(4));
            refused(RefusalTest::usual, -2, "keys(-1)", x -> x.keys(-1));
        });
    }

    private static void ofWhatWasFelt() {
        Due.sentence(17, NOTHING, () -> {
            int[] whats = {-1, 5, 9, 13, 19, 23, 33, 40};
            for (int what : whats) {
                refused(RefusalTest::usual, -2, "tells(1, " + what + ")", x -> x.tells(1, what));
                refused(RefusalTest::usual, -2, "tells(3, " + what + "), BAD ahead of -11", x -> x.tells(3, what));
            }
            refused(RefusalTest::usual, -2, "tells(4, 0)", x -> x.tells(4, 0));
            refused(RefusalTest::usual, -2, "tells(-1, 0)", x -> x.tells(-1, 0));
            refused(RefusalTest::usual, -11, "tells(3, 0)", x -> x.tells(3, 0));
            refused(RefusalTest::usual, -11, "tells(3, 12)", x -> x.tells(3, 12));
            refused(RefusalTest::usual, -2, "tells(0, 0), of 9 numbers", x -> x.tells(0, 0));
            refused(RefusalTest::usual, -2, "tells(2, 32), of 6 numbers", x -> x.tells(2, 32));
        });
        Due.sentence(18, NOTHING, () -> {
            refused(RefusalTest::usual, -2, "film(4)", x -> x.film(4));
            refused(RefusalTest::usual, -2, "film(-1)", x -> x.film(-1));
        });
        Due.sentence(19, NOTHING, () -> {
            refused(RefusalTest::usual, -2, "drawn(1, 41)", x -> x.drawn(1, 41));
            refused(RefusalTest::usual, -2, "drawn(1, -1)", x -> x.drawn(1, -1));
        });
        Due.sentence(20, NOTHING, () -> {
            refused(RefusalTest::usual, SewnUp.NO, "chance(1, 0, 0)", x -> x.chance(1, 0, 0));
            refused(RefusalTest::usual, SewnUp.NO, "chance(1, 21, 0)", x -> x.chance(1, 21, 0));
            refused(RefusalTest::usual, SewnUp.NO, "chance(1, 1, 2)", x -> x.chance(1, 1, 2));
            refused(RefusalTest::usual, SewnUp.NO, "chance(1, 1, -1)", x -> x.chance(1, 1, -1));
        });
        Due.sentence(22, NOTHING, () -> {
            refused(RefusalTest::fresh, -3, "back()", x -> x.back());
            refused(RefusalTest::longTape, -3, "back()", x -> x.back());
            refused(RefusalTest::manyTexts, -3, "back()", x -> x.back());
        });
        Due.sentence(23, NOTHING, () -> {
            refused(RefusalTest::usual, -2, "count(6)", x -> x.count(6));
            refused(RefusalTest::usual, -2, "count(-1)", x -> x.count(-1));
        });
    }

    private static void ofTheHost() {
        Due.sentence(24, NOTHING, () -> {
            for (int k = 0; k < 4; k++) {
                int s = k;
                refused(RefusalTest::usual, -2, "sheet(" + s + ", 3, 1)", x -> x.sheet(s, 3, 1));
                refused(RefusalTest::usual, -2, "sheet(" + s + ", -2, 1)", x -> x.sheet(s, -2, 1));
                refused(RefusalTest::usual, -2, "sheet(" + s + ", 0, 41)", x -> x.sheet(s, 0, 41));
                refused(RefusalTest::usual, -14, "sheet(" + s + ", 0, -1)", x -> x.sheet(s, 0, -1));
                refused(RefusalTest::usual, -2, "sheet(" + s + ", 3, -1), BAD ahead of -14", x -> x.sheet(s, 3, -1));
            }
            refused(RefusalTest::usual, -2, "sheet(4, -1, 0)", x -> x.sheet(4, -1, 0));
            refused(RefusalTest::usual, -2, "sheet(-1, 0, -1), BAD ahead of -14", x -> x.sheet(-1, 0, -1));
        });
        Due.sentence(25, NOTHING, () -> {
            refused(RefusalTest::usual, -2, "cell(4, 0, 1)", x -> x.cell(4, 0, 1));
            refused(RefusalTest::usual, -2, "cell(-1, -1, 1), BAD ahead of -12", x -> x.cell(-1, -1, 1));
            refused(RefusalTest::usual, -11, "cell(3, 0, 1)", x -> x.cell(3, 0, 1));
            refused(RefusalTest::usual, -11, "cell(3, -1, 1), -11 ahead of -12", x -> x.cell(3, -1, 1));
            refused(RefusalTest::usual, -12, "cell(0, 9, 1)", x -> x.cell(0, 9, 1));
            refused(RefusalTest::usual, -12, "cell(0, -1, 1)", x -> x.cell(0, -1, 1));
        });
        Due.sentence(26, NOTHING, () -> {
            refused(RefusalTest::usual, -2, "copy(4, 0, 3, 0, 1), BAD ahead of -11", x -> x.copy(4, 0, 3, 0, 1));
            refused(RefusalTest::usual, -2, "copy(3, 0, -1, 0, 1), BAD ahead of -11", x -> x.copy(3, 0, -1, 0, 1));
            refused(RefusalTest::usual, -11, "copy(0, 0, 3, 0, 1)", x -> x.copy(0, 0, 3, 0, 1));
            refused(RefusalTest::usual, -11, "copy(3, 0, 0, 0, -1), -11 ahead of -12", x -> x.copy(3, 0, 0, 0, -1));
            refused(RefusalTest::usual, -13, "copy(0, 0, 1, 0, 1)", x -> x.copy(0, 0, 1, 0, 1));
            refused(RefusalTest::usual, -13, "copy(2, 9, 1, 9, 9), -13 ahead of -12", x -> x.copy(2, 9, 1, 9, 9));
            refused(RefusalTest::usual, -12, "copy(0, 0, 0, 1, 9)", x -> x.copy(0, 0, 0, 1, 9));
            refused(RefusalTest::usual, -12, "copy(0, 1, 0, 0, 9)", x -> x.copy(0, 1, 0, 0, 9));
            refused(RefusalTest::usual, -12, "copy(0, 3, 0, 0, -1)", x -> x.copy(0, 3, 0, 0, -1));
            refused(RefusalTest::usual, -12, "copy(0, -1, 0, 0, 2)", x -> x.copy(0, -1, 0, 0, 2));
            refused(RefusalTest::usual, -12, "copy(0, 3, 0, -1, 2)", x -> x.copy(0, 3, 0, -1, 2));
        });
        Due.sentence(27, NOTHING, () -> {
            refused(RefusalTest::usual, -2, "grooms(4, 0, 0, 1)", x -> x.grooms(4, 0, 0, 1));
            refused(RefusalTest::usual, -2, "grooms(3, 3, 0, 1), BAD ahead of -11", x -> x.grooms(3, 3, 0, 1));
            refused(RefusalTest::usual, -2, "grooms(1, 0, 0, 7), BAD ahead of -13", x -> x.grooms(1, 0, 0, 7));
            refused(RefusalTest::usual, -2, "grooms(0, 0, 0, -1)", x -> x.grooms(0, 0, 0, -1));
            refused(RefusalTest::usual, -13, "grooms(0, 1, 0, 1)", x -> x.grooms(0, 1, 0, 1));
            refused(RefusalTest::usual, -13, "grooms(0, 2, 9, 1), -13 ahead of -12", x -> x.grooms(0, 2, 9, 1));
            refused(RefusalTest::usual, -11, "grooms(3, 0, -1, 1), -11 ahead of -12", x -> x.grooms(3, 0, -1, 1));
            refused(RefusalTest::usual, -12, "grooms(0, 0, 7, 1)", x -> x.grooms(0, 0, 7, 1));
            refused(RefusalTest::usual, -12, "grooms(0, 0, -1, 1)", x -> x.grooms(0, 0, -1, 1));
            refused(RefusalTest::crowded, 0, "grooms(3, 2, 0, 6), all left out", x -> x.grooms(3, 2, 0, 6));
        });
        Due.sentence(28, NOTHING, () -> {
            refused(RefusalTest::usual, -2, "taken(3, 6), BAD ahead of -11", x -> x.taken(3, 6));
            refused(RefusalTest::usual, -11, "taken(3, 0)", x -> x.taken(3, 0));
            refused(RefusalTest::usual, -13, "taken(0, 2)", x -> x.taken(0, 2));
        });
    }

    // ---- what is asked changes nothing, and what changes one thing leaves the others

    private static void inThought() {
        Due.sentence(10, "in thought", () -> {
            int[] whats = {0, 1, 10, 12, 20, 22};
            for (int what : whats) {
                leavesAll(RefusalTest::usual, "run(40, " + what + ")", x -> x.run(40, what));
                leavesAll(RefusalTest::crowded, "run(40, " + what + ")", x -> x.run(40, what));
            }
        });
        Due.sentence(13, "WARM would be least behind n DAYS", () -> {
            leavesAll(RefusalTest::usual, "better(40, 0)", x -> x.better(40, 0));
            leavesAll(RefusalTest::crowded, "better(40, 1)", x -> x.better(40, 1));
        });
        Due.sentence(14, "WARM would be least behind n DAYS", () -> {
            leavesAll(RefusalTest::usual, "best(10, 0)", x -> x.best(10, 0));
            leavesAll(RefusalTest::crowded, "best(10, 1)", x -> x.best(10, 1));
        });
        Due.sentence(17, "were they THE RULE, by which nobody would be otherwise", () -> {
            int[] whats = {0, 1, 2, 3, 4, 10, 12, 20, 22, 30, 32};
            for (int what : whats) {
                leavesAll(RefusalTest::usual, "tells(1, " + what + ")", x -> x.tells(1, what));
                leavesAll(RefusalTest::crowded, "tells(0, " + what + ")", x -> x.tells(0, what));
            }
        });
        Due.sentence(19, "DRAWN by a SEED: THINGS of GROOMS, in order, would be", () -> {
            leavesAll(RefusalTest::usual, "drawn(9, 40)", x -> x.drawn(9, 40));
            leavesAll(RefusalTest::usual, "chance(9, 20, 0)", x -> x.chance(9, 20, 0));
            leavesAll(RefusalTest::crowded, "chance(9, 20, 1)", x -> x.chance(9, 20, 1));
        });
        Due.sentence(11, "how many (what 0), the most GROOMS of one (1), RIGHT (2), FIRST CHANGE (3; NONE), who WEAR their OWN (4; bits)", () -> {
            for (int k = 0; k < 5; k++) {
                int what = k;
                leavesAll(RefusalTest::crowded, "rings(" + what + ")", x -> x.rings(what));
                leavesAll(RefusalTest::usual, "keys(" + what + ")", x -> x.keys(Math.min(3, what)));
            }
            leavesAll(RefusalTest::usual, "ring(0)", x -> x.ring(0));
            leavesAll(RefusalTest::usual, "from(0)", x -> x.from(0));
            leavesAll(RefusalTest::usual, "taken(0, 0)", x -> x.taken(0, 0));
            for (int k = 0; k <= 10; k++) {
                int what = k;
                leavesAll(RefusalTest::usual, "told(0, " + what + ")", x -> x.told(0, what));
                leavesAll(RefusalTest::usual, "count(" + what + ")", x -> x.count(Math.min(5, what)));
            }
        });
        Due.sentence(26, "(as they were)", () -> {
            leavesAll(RefusalTest::usual, "copy(0, 0, 0, 0, 9)", x -> x.copy(0, 0, 0, 0, 9));
            leavesAll(RefusalTest::usual, "copy(0, 9, 0, 9, 0)", x -> x.copy(0, 9, 0, 9, 0));
            leavesAll(RefusalTest::usual, "grooms(0, 0, 0, 0)", x -> x.grooms(0, 0, 0, 0));
        });
        Due.sentence(2, "of a GROOM becomes v: what it was.", () -> {
            leavesAll(RefusalTest::usual, "set(0, 0, 1) and back", x -> x.set(0, 0, x.set(0, 0, 1)));
            leavesAll(RefusalTest::usual, "set(1, 0, 1) and back", x -> x.set(1, 0, x.set(1, 0, 1)));
            for (int g = 0; g < 3; g++) {
                int of = g;
                leavesAll(RefusalTest::usual, "set(2, " + of + ", 1) and back", x -> x.set(2, of, x.set(2, of, 1)));
                leavesAll(RefusalTest::usual, "set(3, " + of + ", 1) and back", x -> x.set(3, of, x.set(3, of, 1)));
                leavesAll(RefusalTest::usual, "set(4, " + of + ", 1) and back", x -> x.set(4, of, x.set(4, of, 1)));
            }
            leavesAll(RefusalTest::usual, "change(0, 2) twice", x -> x.change(0, 2) + x.change(2, 0));
            leavesAll(RefusalTest::usual, "force(0) and back", x -> x.force(x.force(0)));
        });
    }

    public static void main(String[] args) {
        ofGrooms();
        ofTexts();
        ofDaysAndCoats();
        ofWhatWasFelt();
        ofTheHost();
        inThought();
        Due.end();
    }
}
