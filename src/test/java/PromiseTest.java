// For each promise of the document: ordinary calls, the edges that it names, and wrong inputs,
// each with the answer that the document's words give, reckoned by hand.
public final class PromiseTest {
    private static final int MAX = Integer.MAX_VALUE, MIN = Integer.MIN_VALUE;
    private static int wrong = 0;
    private static int promise = 0;

    private static void due(String call, long got, long want) {
        if (got != want) {
            wrong++;
            System.out.println("promise " + promise + ": " + call + " answered " + got + ", due is " + want);
        }
    }

    private static void feed(SewnUp x, String letters) {
        for (int i = 0; i < letters.length(); i++) {
            x.feed(letters.charAt(i));
        }
    }

    /** A new object's answer to a text. */
    private static int read(String letters) {
        SewnUp x = new SewnUp();
        feed(x, letters);
        return x.text();
    }

    private static void reads(String letters) {
        due("text() of '" + letters + "'", read(letters), 1);
    }

    private static void faulty(String letters, int place) {
        due("text() of '" + letters + "'", read(letters), -100 - place);
    }

    private static SewnUp ruled(String letters) {
        SewnUp x = new SewnUp();
        feed(x, letters);
        due("text() of '" + letters + "'", x.text(), 1);
        due("force(1)", x.force(1), 0);
        return x;
    }

    /** What an expression answers as HEATS of GROOM 0 with NUMBER 3 and THING 6 on DAY 0. */
    private static void is(String e, int want) {
        SewnUp x = ruled("heats " + e + ";calms 0;feels 0;");
        x.groom(0, 3, 6);
        due("heats " + e, x.told(0, 8), want);
    }

    private static void p1New() {
        SewnUp x = new SewnUp();
        int[] counts = {0, 0, 0, 1, 0, 0};
        for (int i = 0; i < 6; i++) {
            due("count(" + i + ")", x.count(i), counts[i]);
        }
        due("told(0,0)", x.told(0, 0), 0);
        due("told(0,1)", x.told(0, 1), 60);
        due("told(0,2)", x.told(0, 2), -2);
        due("image", x.back(), -3);
        for (int s = 0; s < 4; s++) {
            due("sheet missing", x.tells(s, 0), -11);
        }
    }

    private static void p2Set() {
        SewnUp x = new SewnUp();
        due("set(0,-7,999)", x.set(0, -7, 999), 0);
        due("set(0,99,5)", x.set(0, 99, 5), 999);
        due("set(1,-7,99)", x.set(1, -7, 99), 60);
        due("set(1,0,0)", x.set(1, 0, 0), 99);
        due("set(2,0,1) of none", x.set(2, 0, 1), -2);
        x.groom(0, 1, 2);
        x.groom(0, 3, 4);
        due("set(2,1,9)", x.set(2, 1, 9), 3);
        due("set(2,1,0)", x.set(2, 1, 0), 9);
        due("set(3,1,15)", x.set(3, 1, 15), 4);
        due("set(3,1,0)", x.set(3, 1, 0), 15);
        due("set(4,1,99)", x.set(4, 1, 99), 20);
        due("set(4,1,0)", x.set(4, 1, 0), 99);
        due("told(0,2)", x.told(0, 2), 1);
        due("told(0,3)", x.told(0, 3), 2);
        due("told(0,4)", x.told(0, 4), 20);
        x.change(0, 1);
        due("set(3,0,7) sets what is in the own coat", x.set(3, 0, 7), 2);
        due("told(1,7)", x.told(1, 7), 7);
        due("told(0,7)", x.told(0, 7), 0);
        int[] last = {999, 99, 9, 15, 99};
        for (int what = 0; what < 5; what++) {
            int was = x.told(0, what);
            due("set above", x.set(what, 0, last[what] + 1), -2);
            due("set below", x.set(what, 0, -1), -2);
            due("set far", x.set(what, 0, MIN), -2);
            due("it stays", x.told(0, what), was);
        }
        for (int what = 2; what < 5; what++) {
            due("set of none", x.set(what, 2, 0), -2);
            due("set of -1", x.set(what, -1, 0), -2);
        }
        due("set(5)", x.set(5, 0, 0), -2);
        due("set(-1)", x.set(-1, 0, 0), -2);
    }

    private static void p3Groom() {
        SewnUp x = new SewnUp();
        due("groom(5,9,15)", x.groom(5, 9, 15), 0);
        due("groom(0,0,0)", x.groom(0, 0, 0), 1);
        due("kind", x.told(0, 5), 5);
        due("number", x.told(0, 2), 9);
        due("thing", x.told(0, 3), 15);
        due("temper", x.told(0, 4), 20);
        due("wears his own", x.told(1, 6), 1);
        int[][] bad = {{-1, 0, 0}, {6, 0, 0}, {0, -1, 0}, {0, 10, 0}, {0, 0, -1}, {0, 0, 16}, {MAX, MIN, MAX}};
        for (int[] b : bad) {
            due("groom bad", x.groom(b[0], b[1], b[2]), -2);
        }
        due("count(0)", x.count(0), 2);
        for (int g = 2; g < 6; g++) {
            due("groom", x.groom(1, 2, 3), g);
        }
        due("groom full", x.groom(1, 2, 3), -4);
        for (int[] b : bad) {
            due("groom bad ahead of full", x.groom(b[0], b[1], b[2]), -2);
        }
        due("count(0)", x.count(0), 6);
    }

    private static void p4Change() {
        SewnUp x = new SewnUp();
        x.groom(0, 0, 1);
        x.groom(0, 0, 2);
        x.groom(0, 0, 3);
        due("change(0,1)", x.change(0, 1), 1);
        due("change(2,0)", x.change(2, 0), 1);
        due("told(0,6)", x.told(0, 6), 2);
        due("told(1,6)", x.told(1, 6), 0);
        due("told(2,6)", x.told(2, 6), 1);
        due("told(2,7)", x.told(2, 7), 2);
        int[][] bad = {{0, 0}, {0, 3}, {3, 0}, {-1, 0}, {0, -1}, {5, 5}, {MAX, MIN}};
        for (int[] b : bad) {
            due("change bad", x.change(b[0], b[1]), -2);
        }
        due("told(0,6)", x.told(0, 6), 2);
    }

    private static void p5Told() {
        SewnUp x = ruled("heats 9;calms 21;feels 37;");
        for (int kind = 0; kind < 6; kind++) {
            x.groom(kind, 3, 4);
        }
        int[] heats = {9, 12, 4, 12, 1, 18};
        int[] calms = {21, 21, 23, 24, 23, 4};
        int[] odd = {21, 10, 23, 13, 23, 5};
        int[] seven = {21, 10, 23, 13, 0, 7};
        int[] feels = {37, 37, 7, 74, 8, 37};
        for (int g = 0; g < 6; g++) {
            due("HEATS of " + g, x.told(g, 8), heats[g]);
            due("CALMS of " + g, x.told(g, 9), calms[g]);
            due("FEELS of " + g, x.told(g, 10), feels[g]);
            x.set(3, g, 5);
            due("CALMS odd of " + g, x.told(g, 9), odd[g]);
            x.set(3, g, 7);
            due("CALMS by 7 of " + g, x.told(g, 9), seven[g]);
        }
        x.set(3, 4, 13);
        due("SEXTON by 13", x.told(4, 9), 0);
        int[] days = {12, 0, 12, 12, 12, 0};
        for (int d = 0; d < 6; d++) {
            x.set(0, 0, d);
            due("DROWNED on " + d, x.told(3, 8), days[d]);
        }
        toldBounds();
        due("told(0,11)", x.told(0, 11), -2);
        due("told(0,-1)", x.told(0, -1), -2);
        for (int what = 2; what <= 10; what++) {
            due("told(6," + what + ")", x.told(6, what), -2);
            due("told(-1," + what + ")", x.told(-1, what), -2);
        }
        due("told(6,0)", x.told(6, 0), 5);
        due("told(-9,1)", x.told(-9, 1), 60);
        due("told(6,11)", x.told(6, 11), -2);
    }

    private static void toldBounds() {
        SewnUp x = ruled("heats 500;calms 98+number*0;feels 77;");
        for (int kind = 0; kind < 6; kind++) {
            x.groom(kind, 9, 4);
        }
        int[] heats = {99, 99, 49, 99, 40, 99};
        int[] calms = {98, 98, 99, 99, 99, 4};
        int[] feels = {77, 77, 7, 99, 8, 77};
        for (int g = 0; g < 6; g++) {
            due("HEATS high of " + g, x.told(g, 8), heats[g]);
            due("CALMS high of " + g, x.told(g, 9), calms[g]);
            due("FEELS high of " + g, x.told(g, 10), feels[g]);
        }
        SewnUp y = ruled("heats -5;calms -number-1;feels 4;");
        for (int kind = 0; kind < 6; kind++) {
            y.groom(kind, 9, 3);
        }
        int[] low = {0, 3, 0, 3, 0, 0};
        int[] lowCalms = {0, 0, 2, 9, 2, 3};
        int[] lowFeels = {4, 4, 4, 8, 5, 0};
        for (int g = 0; g < 6; g++) {
            due("HEATS low of " + g, y.told(g, 8), low[g]);
            due("CALMS low of " + g, y.told(g, 9), lowCalms[g]);
            due("FEELS low of " + g, y.told(g, 10), lowFeels[g]);
        }
        SewnUp z = ruled("heats 1;calms 1;feels thing;");
        z.groom(5, 0, 5);
        due("BOY from 5 on", z.told(0, 10), 5);
        z.groom(4, 0, 9);
        due("SEXTON by 9", z.told(1, 10), 10);
    }

    private static void p6Feed() {
        SewnUp x = new SewnUp();
        due("feed(-1)", x.feed(-1), -2);
        due("feed(256)", x.feed(256), -2);
        due("feed(MIN)", x.feed(MIN), -2);
        due("count(4)", x.count(4), 0);
        for (int i = 1; i <= 160; i++) {
            due("feed", x.feed(i == 1 ? 0 : 255), i);
        }
        due("feed full", x.feed(32), -4);
        due("feed bad ahead of full", x.feed(256), -2);
        due("count(4)", x.count(4), 160);
    }

    private static void p7Text() {
        reads("heats 1;calms 2;feels 3;");
        reads(" \n heats\n1 ;calms 2;feels 3; \n ");
        reads("heats7or8and9;calms-thing*-2;feels((((( 1 )))));");
        faulty("", 0);
        faulty("  ", 2);
        faulty("heats 7 ", 8);
        faulty("heats 1;calms 2;feels 3", 23);
        faulty("heats 1;calms 2;feels 3; ;", 25);
        faulty("heats 1;calms 2;feels 3; heats", 25);
        faulty("calms 1;", 0);
        faulty("heats ;", 6);
        faulty("heats 1 calms", 8);
        faulty("heats or;", 6);
        faulty("heats heats;", 6);
        faulty("heats nothing;", 6);
        faulty("heat 1;", 0);
        faulty("heats thingz;", 6);
        faulty("heats athing;", 6);
        faulty("heats 1_;", 7);
        faulty("heats 1{;", 7);
        faulty("heats `;", 6);
        faulty("heats 1:;", 7);
        faulty("heats 1/;", 7);
        faulty("Heats 1;", 0);
        faulty("heats 1\t;", 7);
        faulty("heats 12345;", 6);
        faulty("heats 1 12345;", 8);
        faulty("heats 1 /2;", 8);
        faulty("heats 1;calms 2;feels 1<2<3;", 25);
        faulty("heats 1=2=3;", 9);
        faulty("heats 1+not 2;", 8);
        faulty("heats -not 2;", 7);
        faulty("heats 1<not 2;", 8);
        faulty("heats ();", 7);
        faulty("heats (1;", 8);
        faulty("heats 1);", 7);
        faulty("heats 1 2;", 8);
        faulty("heats thing number;", 12);
        faulty("heats 1+;", 8);
        faulty("heats +1;", 6);
        p7Open();
        p7Numbers();
        p7Answers();
    }

    private static void p7Open() {
        faulty("heats ((((((1))))));", 11);
        faulty("heats ------1;", 11);
        faulty("heats not not not not not not 1;", 26);
        faulty("heats not (not (-(1)));", 17);
        reads("heats not (not (-1));calms 1;feels 1;");
        faulty("heats not not(--((1)));", 16);
        reads("heats -----1--2;calms 0;feels 0;");
        reads("heats (((((1-2)))));calms 0;feels 0;");
        faulty("heats (((((-2)))));", 11);
        faulty("heats (((((not 2)))));", 11);
        reads("heats (((((1)))))+(((((1)))))*-----1;calms (((((1)))));feels not not not not not 1;");
        reads("heats not not not not not 1 and not 1 or ((((-1))));calms 0;feels 0;");
        faulty("heats not not not not not 1 < (2);", 30);
        reads("heats not not not not (1) < (2);calms 0;feels 0;");
    }

    private static void p7Numbers() {
        SewnUp x = new SewnUp();
        String some = "heats 1;calms 2;feels 3;";
        for (int i = 1; i < 6; i++) {
            feed(x, some);
            due("text()", x.text(), i);
            due("count(3)", x.count(3), i + 1);
            due("count(4)", x.count(4), 0);
            if (i < 5) {
                feed(x, "heats");
                due("text() faulty", x.text(), -105);
                due("count(4) behind a FAULT", x.count(4), 0);
                due("count(3) behind a FAULT", x.count(3), i + 1);
            }
        }
        feed(x, some);
        due("text() full", x.text(), -4);
        due("count(4) behind FULL", x.count(4), some.length());
        StringBuilder most = new StringBuilder("heats 1");
        for (int i = 0; i < 68; i++) {
            most.append("+1");
        }
        reads(most.append(";calms 2;feels 3;").toString());
        StringBuilder signs = new StringBuilder();
        for (int i = 0; i < 160; i++) {
            signs.append('(');
        }
        faulty(signs.toString(), 0);
        signs.setLength(153);
        faulty("heats 1" + signs.toString().replace('(', ' '), 160);
        faulty("heats--" + signs, 10);
        String blanks = signs.toString().replace('(', ' ');
        faulty("heats" + blanks + "12", 160);
        faulty("1" + "1".repeat(159), 0);
        faulty("calms" + blanks + "or", 0);
        faulty("heats" + blanks + "or", 158);
        p7Long();
    }

    /** Texts as long as can be, one behind the other, each apart from those before. */
    private static void p7Long() {
        SewnUp x = new SewnUp();
        x.groom(0, 0, 0);
        for (int i = 1; i < 6; i++) {
            StringBuilder letters = new StringBuilder("heats 1");
            while (letters.length() < 139) {
                letters.append("+0");
            }
            feed(x, letters + " ;calms " + (i + 1) + " ;feels " + i + "7 ;");
            due("count(4)", x.count(4), 160);
            due("text()", x.text(), i);
            due("force", x.force(i), i - 1);
            due("HEATS", x.told(0, 8), 1);
            due("CALMS", x.told(0, 9), i + 1);
            due("FEELS", x.told(0, 10), 10 * i + 7);
        }
    }

    private static void p7Answers() {
        is("thing", 6);
        is("temper", 20);
        is("number", 3);
        is("day+coat", 0);
        is("own", 1);
        is("9999", 99);
        is("0010", 10);
        is("2+3*4-1", 13);
        is("9-3-2", 4);
        is("2*(3+4)", 14);
        is("-3*-5", 15);
        is("9--3", 12);
        is("3<4", 1);
        is("4<3", 0);
        is("3<3", 0);
        is("-9<3", 1);
        is("6=thing", 1);
        is("5=thing", 0);
        is("7 and 9", 1);
        is("7 and 0", 0);
        is("0 or 9", 1);
        is("0 or 0", 0);
        is("not 5", 0);
        is("not 0", 1);
        is("not 0+1", 0);
        is("not 1<0", 1);
        is("(not 1)<1", 1);
        is("1 or 0 and 0", 1);
        is("not 0 and 0", 0);
        is("not not 7", 1);
        is("(7 or 7)+1", 2);
        is("9999*9999*25 < 0", 1);
        is("9999*9999*50-9999*9999*49 = 9999*9999", 1);
        is("-9999*9999*25 < 0", 0);
    }

    private static void p8Force() {
        SewnUp x = new SewnUp();
        x.groom(0, 0, 4);
        due("force(0)", x.force(0), 0);
        due("force(1) of none", x.force(1), -2);
        feed(x, "heats 1;calms 2;feels 3;");
        x.text();
        due("count(5)", x.count(5), 0);
        due("told(0,8)", x.told(0, 8), 7);
        due("told(0,9)", x.told(0, 9), 4);
        due("told(0,10)", x.told(0, 10), 12);
        due("force(1)", x.force(1), 0);
        due("told(0,8)", x.told(0, 8), 1);
        due("told(0,9)", x.told(0, 9), 2);
        due("told(0,10)", x.told(0, 10), 3);
        due("force(2)", x.force(2), -2);
        due("force(-1)", x.force(-1), -2);
        due("force(6)", x.force(6), -2);
        due("count(5)", x.count(5), 1);
        due("force(0)", x.force(0), 1);
    }

    private static void p9Day() {
        SewnUp x = ruled("heats 10+day;calms thing+(temper<41);feels 1;");
        due("day() of none", x.day(), 0);
        due("DAY", x.told(0, 0), 1);
        x.groom(0, 0, 1);
        x.groom(0, 0, 15);
        x.set(1, 0, 41);
        x.set(4, 1, 30);
        due("day()", x.day(), 1);
        due("temper 20+11-1-1", x.told(0, 4), 29);
        due("temper 30+11-15", x.told(1, 4), 26);
        due("DAY", x.told(0, 0), 2);
        x.set(1, 0, 42);
        due("day() below LIMIT", x.day(), 0);
        x.set(4, 0, 99);
        x.set(4, 1, 0);
        due("day() above", x.day(), 1);
        due("99 at most", x.told(0, 4), 98);
        due("0 at least", x.told(1, 4), 0);
        x.set(0, 0, 999);
        due("day() at 999", x.day(), -3);
        due("it stays", x.told(0, 4), 98);
        x.set(0, 0, 998);
        due("day() at 998", x.day() >= 0 ? 1 : 0, 1);
        due("DAY", x.told(0, 0), 999);
    }

    private static void p10Run() {
        SewnUp x = new SewnUp();
        due("run(3,0) of none", x.run(3, 0), 0);
        due("run(3,10) of none", x.run(3, 10), -2);
        x.groom(0, 0, 2);
        x.groom(5, 0, 0);
        due("run(0,0)", x.run(0, 0), 40);
        due("run(0,1)", x.run(0, 1), 0);
        due("run(0,20)", x.run(0, 20), -1);
        due("run(3,10)", x.run(3, 10), 35);
        due("run(3,11)", x.run(3, 11), 62);
        due("run(3,0)", x.run(3, 0), 97);
        due("run(3,1)", x.run(3, 1), 1);
        due("run(3,20)", x.run(3, 20), -1);
        due("run(3,21)", x.run(3, 21), 2);
        due("run(40,11)", x.run(40, 11), 99);
        due("run(40,1)", x.run(40, 1), 71);
        due("TEMPER is left", x.told(1, 4), 20);
        due("DAY is left", x.told(1, 0), 0);
        int[][] bad = {{-1, 0}, {41, 0}, {MAX, 0}, {1, 2}, {1, -1}, {1, 9}, {1, 12}, {1, 19}, {1, 22}, {1, 30},
            {1, MAX}, {1, MIN}};
        for (int[] b : bad) {
            due("run(" + b[0] + "," + b[1] + ")", x.run(b[0], b[1]), -2);
        }
        SewnUp y = ruled("heats (999<day)*5;calms 0;feels 0;");
        y.groom(0, 0, 0);
        y.set(0, 0, 998);
        due("a thought passes 999", y.run(4, 0), 30);
        y.groom(3, 0, 0);
        y.set(0, 0, 1);
        due("DROWNED on DAY 1 and 2", y.run(2, 11), 23);
        y.set(1, 0, 0);
        due("LIMIT 0", y.run(5, 1), 10);
    }

    private static void p11Rings() {
        SewnUp x = new SewnUp();
        int[] none = {0, 0, 0, -1, 0};
        for (int what = 0; what < 5; what++) {
            due("rings of none", x.rings(what), none[what]);
        }
        for (int g = 0; g < 6; g++) {
            x.groom(0, 0, 0);
        }
        x.change(1, 4);
        x.change(4, 2);
        int[] some = {4, 3, 2, 12, 41};
        for (int what = 0; what < 5; what++) {
            due("rings(" + what + ")", x.rings(what), some[what]);
        }
        x.change(3, 5);
        int[] more = {3, 3, 3, 12, 1};
        for (int what = 0; what < 5; what++) {
            due("rings(" + what + ")", x.rings(what), more[what]);
        }
        x.change(2, 4);
        due("now 1 and 4 or 1 and 2 are a ring", x.rings(2), 2);
        x.change(0, 5);
        due("first change", x.rings(3), 3);
        due("rings(5)", x.rings(5), -2);
        due("rings(-1)", x.rings(-1), -2);
    }

    private static void p12Ring() {
        SewnUp x = new SewnUp();
        due("ring(0) of none", x.ring(0), -2);
        for (int g = 0; g < 6; g++) {
            x.groom(0, 0, 0);
        }
        x.change(0, 3);
        x.change(3, 5);
        int[] rings = {41, 2, 4, 41, 16, 41};
        for (int g = 0; g < 6; g++) {
            due("ring(" + g + ")", x.ring(g), rings[g]);
        }
        due("ring(6)", x.ring(6), -2);
        due("ring(-1)", x.ring(-1), -2);
    }

    private static void p13Better() {
        SewnUp x = new SewnUp();
        due("better of none", x.better(3, 0), -1);
        due("better of none", x.better(3, 1), 0);
        x.groom(0, 0, 15);
        x.groom(1, 0, 1);
        x.groom(1, 0, 3);
        // as so 12, 30, 29; 0 and 1 change: 26, 23, 29; 1 and 2: 12, 29, 30; 0 and 2: 24, 30, 23
        due("better(1,1)", x.better(1, 1), 71);
        due("better(1,0)", x.better(1, 0), -1);
        x.set(3, 1, 14);
        // as so 12, 16, 29; 0 and 1 change: 13, 23 (7 of 15), 29; 1 and 2: 12, 29, 16; 0 and 2: 24, 16, 23
        due("better(1,1)", x.better(1, 1), 57);
        due("better(1,0)", x.better(1, 0), -1);
        x.change(0, 2);
        due("better(1,0) back", x.better(1, 0), 2);
        due("better(1,1) back", x.better(1, 1), 57);
        due("better(0,0)", x.better(0, 0), -1);
        due("better(0,1)", x.better(0, 1), 60);
        int[][] bad = {{-1, 0}, {41, 0}, {MIN, 1}, {1, 2}, {1, -1}};
        for (int[] b : bad) {
            due("better(" + b[0] + "," + b[1] + ")", x.better(b[0], b[1]), -2);
        }
        due("told(0,6) stays", x.told(0, 6), 2);
        SewnUp y = ruled("heats 9*own;calms 0;feels 0;");
        y.groom(0, 0, 0);
        y.groom(0, 0, 0);
        y.groom(0, 0, 0);
        due("of like ones the first", y.better(1, 0), 1);
        due("own goes with the coat", y.better(1, 1), 69);
        due("better(40,0)", y.better(40, 0), 1);
    }

    private static void p14Best() {
        SewnUp x = new SewnUp();
        due("best of none", x.best(3, 0), 0);
        due("best of none", x.best(3, 1), 0);
        x.groom(1, 0, 1);
        x.groom(0, 0, 2);
        x.groom(5, 0, 9);
        x.change(0, 2);
        // heats 10, 7, 14; a SAILOR is calmed by an even thing best: 2 by 2, 1 and 9 by 9 and 1
        due("best(1,1)", x.best(1, 1), 60 + 31 - 2 - 9 - 1);
        due("best(1,0)", x.best(1, 0), 213);
        due("best(0,0) the first", x.best(0, 0), 123);
        due("best(0,1)", x.best(0, 1), 60);
        due("best(10,1)", x.best(10, 1) > 0 ? 1 : 0, 1);
        due("told(0,6) stays", x.told(0, 6), 2);
        int[][] bad = {{-1, 0}, {11, 0}, {MAX, 1}, {1, 2}, {1, -1}};
        for (int[] b : bad) {
            due("best(" + b[0] + "," + b[1] + ")", x.best(b[0], b[1]), -2);
        }
        SewnUp y = ruled("heats 9*own+coat*number;calms 0;feels 0;");
        for (int g = 0; g < 6; g++) {
            y.groom(0, g == 0 ? 1 : 0, 0);
        }
        // GROOM 0 is hotter by whose coat he wears, or by 9 in his own
        due("best(1,1) by coat", y.best(1, 1), 121);
        due("best(1,0) by coat", y.best(1, 0), 214365);
    }

    private static void p15From() {
        SewnUp x = new SewnUp();
        due("from(0) of none", x.from(0), -2);
        x.groom(0, 1, 10);
        x.groom(0, 2, 11);
        x.groom(0, 3, 9);
        x.groom(0, 9, 2);
        x.groom(0, 8, 15);
        due("from(0): a round, and 9 is as 1", x.from(0), 15);
        due("from(1)", x.from(1), 15);
        due("from(3): a thing below 8 opens none", x.from(3), 8);
        due("from(4): 7 is nobody's", x.from(4), 16);
        x.set(3, 4, 8);
        due("from(4): his own", x.from(4), 16);
        x.change(0, 4);
        due("what is worn does not matter", x.from(0), 15);
        x.set(2, 3, 0);
        due("from(4): 8 opens 0", x.from(4), 24);
        due("from(5)", x.from(5), -2);
        due("from(-1)", x.from(-1), -2);
    }

    private static void p16Keys() {
        SewnUp x = new SewnUp();
        int[] none = {-1, 0, 0, 0};
        for (int what = 0; what < 4; what++) {
            due("keys of none", x.keys(what), none[what]);
        }
        x.groom(0, 1, 0);
        x.groom(0, 2, 9);
        x.groom(0, 3, 9);
        x.groom(0, 4, 11);
        x.groom(0, 5, 12);
        int[] some = {4, 4, 18, 2};
        for (int what = 0; what < 4; what++) {
            due("keys(" + what + ")", x.keys(what), some[what]);
        }
        x.set(3, 1, 12);
        int[] like = {1, 4, 18, 2};
        for (int what = 0; what < 4; what++) {
            due("keys(" + what + ") of like ones", x.keys(what), like[what]);
        }
        x.set(3, 0, 13);
        x.set(3, 4, 10);
        int[] round = {0, 5, 1, 1};
        for (int what = 0; what < 4; what++) {
            due("keys(" + what + ") round", x.keys(what), round[what]);
        }
        due("keys(4)", x.keys(4), -2);
        due("keys(-1)", x.keys(-1), -2);
    }

    private static SewnUp felt(int... felt) {
        SewnUp x = new SewnUp();
        x.sheet(0, 2, felt.length);
        for (int i = 0; i < felt.length; i++) {
            x.cell(0, i, felt[i]);
        }
        return x;
    }

    private static void p17Tells() {
        SewnUp x = felt(9, 9, 24, 6);
        x.groom(0, 1, 3);
        x.groom(1, 2, 3);
        x.groom(3, 3, 4);
        x.groom(2, 4, 2);
        due("tells(0,0)", x.tells(0, 0), 0);
        due("tells(0,1)", x.tells(0, 1), 2);
        due("tells(0,2)", x.tells(0, 2), 1234);
        due("tells(0,3)", x.tells(0, 3), 12);
        due("tells(0,4)", x.tells(0, 4), 1);
        due("KINDS of 0: 9 is 9 % 10 and more than 5", x.tells(0, 10), 1 | 2 | 4 | 32);
        due("KINDS of 2", x.tells(0, 12), 8);
        due("KINDS of 3", x.tells(0, 13), 1 | 2 | 4 | 32);
        due("NUMBERS of 1", x.tells(0, 21), 1023);
        due("THINGS of 0", x.tells(0, 30), 8);
        due("THINGS of 3: a CLERK feels 6 and 36", x.tells(0, 33), 1 << 2 | 1 << 12);
        x.change(0, 3);
        due("who isn't so", x.tells(0, 0), 9);
        due("KINDS while others aren't so", x.tells(0, 10), 0);
        due("NUMBERS while others aren't so", x.tells(0, 20), 0);
        due("THINGS while others aren't so", x.tells(0, 30), 0);
        due("TEXTS while some aren't so", x.tells(0, 4), 0);
        due("WAYS do not hang on who wears what", x.tells(0, 1), 2);
        x.cell(0, 0, 6);
        due("who isn't so", x.tells(0, 0), 8);
        due("THINGS of 0 are felt of 3, a CLERK", x.tells(0, 30), 1 << 2 | 1 << 12);
        x.cell(0, 3, 8);
        due("THINGS of 0 are felt of 3", x.tells(0, 30), 1 << 6);
        due("THINGS of 3 while 3 isn't so", x.tells(0, 33), 0);
        due("KINDS of 3: 9 + 1 is 10", x.tells(0, 13), 0);
        x.cell(0, 3, 10);
        due("KINDS of 3: SEXTON", x.tells(0, 13), 16);
        due("WAYS: none", x.tells(0, 1), 0);
        due("the first: none", x.tells(0, 2), 0);
        due("SURE: none", x.tells(0, 3), 0);
        p17More();
        p17Bad();
    }

    private static void p17More() {
        SewnUp x = felt(5, 0);
        feed(x, "heats 0;calms 0;feels number+thing*0+temper+day+coat+own;");
        x.text();
        feed(x, "heats 0;calms 0;feels number*2-number;");
        x.text();
        x.groom(0, 5, 1);
        x.groom(2, 0, 1);
        x.set(0, 0, 9);
        due("TEXTS", x.tells(0, 4), 6);
        x.force(1);
        due("feels knows no temper, day, coat, own", x.tells(0, 0), 0);
        due("NUMBERS of 0", x.tells(0, 20), 32);
        due("NUMBERS of 1", x.tells(0, 21), 1);
        due("THINGS of 0", x.tells(0, 30), 65535);
        due("WAYS", x.tells(0, 1), 2);
        due("the first", x.tells(0, 2), 12);
        due("SURE", x.tells(0, 3), 0);
        x.change(0, 1);
        due("the first is not as they wear", x.tells(0, 2), 12);
        x.cell(0, 0, 256 + 5);
        due("a number that none can be", x.tells(0, 0), 1);
        due("count(5) is left", x.count(5), 1);
        due("NUMBER is left", x.told(0, 2), 5);
        due("KIND is left", x.told(1, 5), 2);
        SewnUp y = felt(1, 2);
        y.sheet(0, 0, 0);
        due("of none: nobody", y.tells(0, 0), 0);
        due("of none: one way", y.tells(0, 1), 1);
        due("of none: the first", y.tells(0, 2), 0);
        due("of none: sure", y.tells(0, 3), 0);
        due("of none: TEXTS", y.tells(0, 4), 1);
        due("of none: KINDS", y.tells(0, 10), -2);
    }

    private static void p17Bad() {
        SewnUp x = felt(9, 9);
        x.groom(0, 0, 0);
        x.groom(0, 0, 0);
        int[] bad = {-1, 5, 9, 12, 19, 22, 32, 39, 40, 41, 50, MAX, MIN, -10};
        for (int what : bad) {
            due("tells(0," + what + ")", x.tells(0, what), -2);
            due("tells(1," + what + ") ahead of -11", x.tells(1, what), -2);
        }
        due("tells(4,0)", x.tells(4, 0), -2);
        due("tells(-1,0)", x.tells(-1, 0), -2);
        due("tells(1,0)", x.tells(1, 0), -11);
        due("tells(1,31)", x.tells(1, 31), -11);
        x.groom(0, 0, 0);
        due("too short", x.tells(0, 0), -2);
        x.sheet(0, 1, 4);
        due("too long", x.tells(0, 3), -2);
        due("too long", x.tells(0, 10), -2);
    }

    private static void p18Film() {
        SewnUp x = new SewnUp();
        due("film(0) of none", x.film(0), 0);
        due("a row of none", x.cell(0, 0, 1), -12);
        x.groom(0, 0, 3);
        x.groom(1, 0, 15);
        x.sheet(3, 2, 40);
        due("film(3)", x.film(3), 2);
        due("tells(3,0)", x.tells(3, 0), 0);
        due("its size", x.cell(3, 2, 0), -12);
        x.set(2, 0, 9);
        due("grooms of ints", x.grooms(3, 2, 0, 0), -13);
        due("grooms of bytes", x.grooms(3, 0, 0, 0), 0);
        x.set(3, 0, 4);
        due("a film stays as it is", x.tells(3, 0), 1);
        x.sheet(2, 0, 2);
        x.cell(2, 0, 9);
        x.cell(2, 1, 45);
        x.set(3, 0, 3);
        due("as by hand", x.tells(2, 0), 0);
        due("film(4)", x.film(4), -2);
        due("film(-1)", x.film(-1), -2);
    }

    private static void p19Drawn() {
        SewnUp x = new SewnUp();
        due("drawn of none", x.drawn(5, 3), 0);
        x.groom(0, 0, 0);
        // z is 12345, then 1406932606 * 1: 24 % 16 and (12345 * 1103515245 + 12345 as an int) >>> 9
        int second = 12345 * 1103515245 + 12345;
        int two = (second >>> 9) % 16;
        due("drawn(0,0)", x.drawn(0, 0), 20);
        due("drawn(0,1)", x.drawn(0, 1), 20 + 7 - 8);
        due("THING stays", x.told(0, 3), 0);
        x.groom(5, 0, 1);
        due("drawn(0,1) of two", x.drawn(0, 1), 19 + 34 - two);
        x.change(0, 1);
        due("drawn(0,1), changed", x.drawn(0, 1), 27 - two + 34 - 8);
        due("drawn(-1,1): >>> and % of what is below 0", x.drawn(-1, 1),
            61 - (-1103502900 >>> 9) % 16 - ((-1103502900 * 1103515245 + 12345) >>> 9) % 16);
        due("drawn(0,-1)", x.drawn(0, -1), -2);
        due("drawn(0,41)", x.drawn(0, 41), -2);
        due("drawn(0,40)", x.drawn(0, 40) >= 0 ? 1 : 0, 1);
        due("TEMPER stays", x.told(1, 4), 20);
    }

    private static void p20Chance() {
        SewnUp x = new SewnUp();
        due("of none", x.chance(7, 6, 0), 0);
        due("of none", x.chance(7, 6, 1), 1);
        x.groom(0, 0, 0);
        due("of one", x.chance(7, 6, 0), 1);
        due("of one", x.chance(7, 6, 1), 1);
        x.groom(0, 1, 0);
        int open = 0;
        for (int seed = 100; seed < 120; seed++) {
            int z = seed * 1103515245 + 12345;
            int one = (z >>> 9) % 16;
            int two = ((z * 1103515245 + 12345) >>> 9) % 16;
            open += one == 9 || two == 8 ? 1 : 0;
        }
        long above = x.chance(100, 20, 0);
        long below = x.chance(100, 20, 1);
        due("as by hand", above * 20, open * below);
        for (long d = 2; d <= 20; d++) {
            due("lowest terms", above % d == 0 && below % d == 0 ? 1 : 0, 0);
        }
        due("m 1", x.chance(100, 1, 1), 1);
        due("a seed wraps", x.chance(MAX, 20, 1) > 0 ? 1 : 0, 1);
        due("THING stays", x.told(1, 3), 0);
        due("m 0", x.chance(0, 0, 0), SewnUp.NO);
        due("m 21", x.chance(0, 21, 1), SewnUp.NO);
        due("m -1", x.chance(0, -1, 1), SewnUp.NO);
        due("part 2", x.chance(0, 1, 2), SewnUp.NO);
        due("part -1", x.chance(0, 1, -1), SewnUp.NO);
    }

    private static void p21And22Image() {
        promise = 21;
        SewnUp x = new SewnUp();
        due("image() of none", x.image(), 0);
        x.groom(1, 2, 3);
        x.groom(2, 4, 5);
        due("back() to none", x.back(), 0);
        due("count(0)", x.count(0), 0);
        x.groom(1, 2, 3);
        x.groom(2, 4, 5);
        x.change(0, 1);
        x.set(0, 0, 77);
        x.set(1, 0, 66);
        x.set(4, 1, 55);
        due("image()", x.image(), 2);
        promise = 22;
        x.set(0, 0, 1);
        x.set(1, 0, 2);
        x.set(2, 0, 3);
        x.set(3, 0, 4);
        x.set(4, 0, 5);
        x.change(0, 1);
        x.groom(5, 5, 5);
        feed(x, "heats 1;calms 2;feels 3;");
        x.text();
        x.force(1);
        x.feed(32);
        x.film(0);
        for (int twice = 0; twice < 2; twice++) {
            due("back()", x.back(), 2);
            int[] first = {77, 66, 2, 3, 20, 1, 1, 5};
            int[] second = {77, 66, 4, 5, 55, 2, 0, 3};
            for (int what = 0; what < 8; what++) {
                due("told(0," + what + ")", x.told(0, what), first[what]);
                due("told(1," + what + ")", x.told(1, what), second[what]);
            }
            int[] counts = {2, 75, 0, 2, 1, 0};
            for (int what = 0; what < 6; what++) {
                due("count(" + what + ")", x.count(what), counts[what]);
            }
            due("a SHEET stays", x.cell(0, 2, 0), 1);
            due("GROOMS that came since go", x.told(2, 2), -2);
            x.day();
        }
        x.force(1);
        x.groom(3, 9, 9);
        due("image() anew", x.image(), 3);
        x.force(0);
        x.set(0, 0, 0);
        due("back() to the newer one", x.back(), 3);
        due("THE RULE", x.count(5), 1);
        due("KIND", x.told(2, 5), 3);
        due("back() without an image", new SewnUp().back(), -3);
    }

    private static void p23Count() {
        SewnUp x = new SewnUp();
        x.groom(0, 0, 0);
        x.groom(0, 0, 0);
        x.set(4, 0, 59);
        x.set(4, 1, 60);
        due("count(0)", x.count(0), 2);
        due("count(1)", x.count(1), 119);
        due("count(2)", x.count(2), 1);
        x.set(1, 0, 59);
        due("count(2) by LIMIT 59", x.count(2), 2);
        x.feed(104);
        due("count(4)", x.count(4), 1);
        due("count(6)", x.count(6), -2);
        due("count(-1)", x.count(-1), -2);
    }

    private static void p24Sheet() {
        SewnUp x = new SewnUp();
        due("sheet(0,0,40)", x.sheet(0, 0, 40), 1);
        due("sheet(3,2,0)", x.sheet(3, 2, 0), 1);
        due("sheet(0,-1,99)", x.sheet(0, -1, 99), 1);
        due("it is missing", x.cell(0, 0, 0), -11);
        due("sheet(0,-1,-99)", x.sheet(0, -1, -99), 1);
        due("sheet(4,0,1)", x.sheet(4, 0, 1), -2);
        due("sheet(-1,0,1)", x.sheet(-1, 0, 1), -2);
        due("sheet(4,-1,1)", x.sheet(4, -1, 1), -2);
        due("sheet(0,3,1)", x.sheet(0, 3, 1), -2);
        due("sheet(0,-2,1)", x.sheet(0, -2, 1), -2);
        due("sheet(0,3,-1)", x.sheet(0, 3, -1), -2);
        due("sheet(0,1,41)", x.sheet(0, 1, 41), -2);
        due("sheet(0,1,MAX)", x.sheet(0, 1, MAX), -2);
        due("sheet(0,1,-1)", x.sheet(0, 1, -1), -14);
        due("sheet(0,1,MIN)", x.sheet(0, 1, MIN), -14);
        due("it is missing yet", x.cell(0, 0, 0), -11);
        x.groom(5, 9, 15);
        x.sheet(1, 1, 3);
        x.cell(1, 0, 5);
        x.cell(1, 2, 9);
        x.sheet(1, 1, 41);
        due("refused: it stays", x.grooms(1, 1, 0, 1), 1);
        due("its first", x.told(1, 5), 5);
        x.sheet(1, 2, 3);
        due("anew: all 0", x.grooms(1, 2, 0, 1), 1);
        due("its first", x.told(2, 5), 0);
        due("its third", x.told(2, 3), 0);
    }

    private static void p25Cell() {
        SewnUp x = new SewnUp();
        x.groom(0, 0, 1);
        x.sheet(0, 0, 1);
        x.sheet(1, 1, 1);
        x.sheet(2, 2, 1);
        due("cell(0,0,259)", x.cell(0, 0, 256 + 3), 1);
        due("bytes: the lowest 8 bits", x.tells(0, 0), 0);
        due("cell(1,0,259)", x.cell(1, 0, 256 + 3), 1);
        due("shorts: more", x.tells(1, 0), 1);
        due("cell(1,0,65539)", x.cell(1, 0, 65536 + 3), 1);
        due("shorts: the lowest 16 bits", x.tells(1, 0), 0);
        due("cell(2,0,65539)", x.cell(2, 0, 65536 + 3), 1);
        due("ints: all", x.tells(2, 0), 1);
        due("cell(2,0,3)", x.cell(2, 0, 3), 1);
        due("ints", x.tells(2, 0), 0);
        due("cell(2,1,3)", x.cell(2, 1, 3), -12);
        due("cell(2,-1,3)", x.cell(2, -1, 3), -12);
        due("cell(2,MIN,3)", x.cell(2, MIN, 3), -12);
        due("cell(3,-1,3)", x.cell(3, -1, 3), -11);
        due("cell(4,0,3)", x.cell(4, 0, 3), -2);
        due("cell(-1,0,3)", x.cell(-1, 0, 3), -2);
    }

    private static void row(SewnUp x, int sheet, int sort, int... items) {
        x.sheet(sheet, sort, items.length);
        for (int i = 0; i < items.length; i++) {
            x.cell(sheet, i, items[i]);
        }
    }

    /** Six items of a sheet, read as two GROOMS. */
    private static void holds(SewnUp x, int sheet, int sort, int... items) {
        x.image();
        int at = x.count(0);
        due("two come", x.grooms(sheet, sort, 0, 2), 2);
        for (int i = 0; i < 6; i++) {
            due("item " + i, x.told(at + i / 3, i % 3 == 0 ? 5 : i % 3 + 1), items[i]);
        }
        x.back();
    }

    private static void p26Copy() {
        SewnUp x = new SewnUp();
        row(x, 0, 1, 0, 1, 2, 3, 4, 5);
        row(x, 1, 1, 5, 5, 5, 5, 5, 5, 5);
        row(x, 2, 2, 0, 0);
        due("copy(0,1,1,3,2)", x.copy(0, 1, 1, 3, 2), 2);
        holds(x, 1, 1, 5, 5, 5, 1, 2, 5);
        due("copy onto itself, on", x.copy(0, 0, 0, 2, 4), 4);
        holds(x, 0, 1, 0, 1, 0, 1, 2, 3);
        due("copy onto itself, back", x.copy(0, 2, 0, 1, 4), 4);
        holds(x, 0, 1, 0, 0, 1, 2, 3, 3);
        due("none at the end", x.copy(0, 6, 1, 7, 0), 0);
        due("all", x.copy(0, 0, 1, 1, 6), 6);
        int[][] outside = {{-1, 0, 1}, {0, -1, 1}, {0, 0, -1}, {6, 0, 1}, {0, 7, 1}, {7, 0, 0}, {0, 8, 0}, {0, 0, 7},
            {1, 0, 6}, {0, 2, 6}, {0, 0, MAX}, {MAX, MAX, MAX}, {MAX, 0, 1}, {MIN, 0, 1}, {0, 0, MIN}};
        for (int[] o : outside) {
            due("copy(0," + o[0] + ",1," + o[1] + "," + o[2] + ")", x.copy(0, o[0], 1, o[1], o[2]), -12);
        }
        due("unlike sorts", x.copy(0, 0, 2, 0, 1), -13);
        due("unlike sorts ahead of -12", x.copy(0, -1, 2, 0, 1), -13);
        due("to a missing one", x.copy(0, 0, 3, 0, 1), -11);
        due("from a missing one", x.copy(3, 0, 2, 0, -1), -11);
        due("no such", x.copy(4, 0, 0, 0, 1), -2);
        due("no such", x.copy(3, 0, -1, 0, 1), -2);
    }

    private static void p27Grooms() {
        SewnUp x = new SewnUp();
        row(x, 0, 0, 9, 1, 2, 3, 6, 0, 0, 4, 5, 6, 0, 0);
        due("grooms(0,0,1,3)", x.grooms(0, 0, 1, 3), 2);
        due("KIND", x.told(0, 5), 1);
        due("NUMBER", x.told(0, 2), 2);
        due("THING", x.told(0, 3), 3);
        due("TEMPER", x.told(0, 4), 20);
        due("KIND", x.told(1, 5), 4);
        due("none", x.grooms(0, 0, 0, 0), 0);
        due("what stood ahead came", x.grooms(0, 0, 7, 2), -12);
        due("count(0)", x.count(0), 3);
        due("a piece of three", x.grooms(0, 0, 10, 1), -12);
        due("below", x.grooms(0, 0, -1, 1), -12);
        due("far", x.grooms(0, 0, MAX, 1), -12);
        due("far below", x.grooms(0, 0, MIN, 6), -12);
        due("count(0)", x.count(0), 3);
        row(x, 1, 2, 0, 0, 0, 1, 1, 1, 2, 2, 2, 3, 3, 3, 4, 4, 4);
        due("grooms till full", x.grooms(1, 2, 0, 5), 3);
        due("count(0)", x.count(0), 6);
        due("all left out", x.grooms(1, 2, 0, 5), 0);
        due("outside yet", x.grooms(1, 2, 0, 6), -12);
        due("of another sort", x.grooms(1, 0, 0, 1), -13);
        due("of another sort, none", x.grooms(1, 1, -1, 0), -13);
        due("missing", x.grooms(2, 0, 0, 0), -11);
        due("missing", x.grooms(2, 2, -1, 6), -11);
        int[][] bad = {{4, 0, 1}, {-1, 0, 1}, {0, 3, 1}, {0, -1, 1}, {0, 0, 7}, {0, 0, -1}, {2, 3, 1}, {2, 0, 7}};
        for (int[] b : bad) {
            due("grooms bad", x.grooms(b[0], b[1], 0, b[2]), -2);
        }
    }

    private static void p28Taken() {
        SewnUp x = new SewnUp();
        for (int kind = 0; kind < 6; kind++) {
            x.groom(kind, kind + 2, 0);
        }
        int[][] under = {{0}, {0, 1}, {0, 2}, {0, 1, 3}, {0, 2, 4}, {0, 5}};
        for (int g = 0; g < 6; g++) {
            int fits = 0;
            for (int k : under[g]) {
                fits |= 1 << k;
            }
            for (int k = 0; k < 6; k++) {
                due("taken(" + g + "," + k + ")", x.taken(g, k), (fits >> k & 1) == 1 ? g + 2 : -13);
            }
        }
        SewnUp y = new SewnUp();
        due("taken(0,0) of none", y.taken(0, 0), -11);
        due("taken(-1,0)", y.taken(-1, 0), -11);
        due("taken(0,6)", y.taken(0, 6), -2);
        due("taken(0,-1)", x.taken(0, -1), -2);
        due("taken(6,5)", x.taken(6, 5), -11);
    }

    public static void main(String[] args) {
        promise = 1;
        p1New();
        promise = 2;
        p2Set();
        promise = 3;
        p3Groom();
        promise = 4;
        p4Change();
        promise = 5;
        p5Told();
        promise = 6;
        p6Feed();
        promise = 7;
        p7Text();
        promise = 8;
        p8Force();
        promise = 9;
        p9Day();
        promise = 10;
        p10Run();
        promise = 11;
        p11Rings();
        promise = 12;
        p12Ring();
        promise = 13;
        p13Better();
        promise = 14;
        p14Best();
        promise = 15;
        p15From();
        promise = 16;
        p16Keys();
        promise = 17;
        p17Tells();
        promise = 18;
        p18Film();
        promise = 19;
        p19Drawn();
        promise = 20;
        p20Chance();
        p21And22Image();
        promise = 23;
        p23Count();
        promise = 24;
        p24Sheet();
        promise = 25;
        p25Cell();
        promise = 26;
        p26Copy();
        promise = 27;
        p27Grooms();
        promise = 28;
        p28Taken();
        System.out.println(wrong == 0 ? "every promise holds" : wrong + " answers are not as due");
        if (wrong != 0) {
            System.exit(1);
        }
    }
}
