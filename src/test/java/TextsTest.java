// Terms 1, sentence by sentence: the tape, its tokens, what is a TEXT, where its FAULT is, what an E is.
public final class TextsTest {
    /** 2147483647, written with numbers of four digits. */
    private static final String MOST = "9999*9999*21+9999*4790+8416";

    private static int read(String letters) {
        SewnUp x = new SewnUp();
        Due.feed(x, letters);
        return x.text();
    }

    private static void reads(String letters) {
        Due.is("text() of '" + letters + "'", read(letters), 1);
    }

    private static void readsE(String e) {
        reads("heats " + e + ";calms 2;feels 3;");
    }

    private static void faulty(String letters, int place) {
        Due.is("text() of '" + letters + "'", read(letters), -100 - place);
    }

    /** An E answers this as HEATS of GROOM 0, with NUMBER 3 and THING 6, on DAY 0. */
    private static void answers(String e, int want) {
        SewnUp x = Due.ruled("heats " + e + ";calms 0;feels 0;", Due.g(0, 3, 6));
        Due.is(e, x.told(0, 8), want);
    }

    private static String times(String letters, int n) {
        return letters.repeat(n);
    }

    private static void tape() {
        Due.sentence(6, "THE TAPE (160 bytes at most)", () -> {
            SewnUp x = new SewnUp();
            for (int i = 1; i <= 160; i++) {
                Due.is("byte " + i, x.feed(32), i);
            }
            Due.is("byte 161", x.feed(32), -4);
            Due.is("count(4)", x.count(4), 160);
        });
        Due.sentence(7, "THE TAPE (160 bytes at most)", () -> {
            String letters = "heats 1;calms 2;feels 3" + times(" ", 136) + ";";
            Due.is("its size", letters.length(), 160);
            reads(letters);
            faulty(letters.substring(0, 159) + "A", 159);
            faulty(times(" ", 160), 160);
            faulty("heats 1" + times("+1", 76) + "+", 160);
            faulty("heats " + times("1", 154), 6);
            faulty(times("a", 160), 0);
            faulty(times("(", 160), 0);
            faulty("heats 1" + times(";", 153), 8);
            readsE("1" + times("+1", 67));
            readsE("1" + times("-1", 67));
            readsE("1" + times("*1", 67));
            readsE("1" + times("or 1", 33));
            readsE("1" + times("and 1", 27));
        });
    }

    private static void tokens() {
        Due.sentence(7, "TOKENS, each as long as can be", () -> {
            faulty("heatscalms", 0);
            faulty("heats thingnumber;", 6);
            faulty("heats nott;", 6);
            faulty("heats not1thing;", 10);
            faulty("heats 1 orthing;", 8);
            faulty("heats 1 andor;", 8);
            faulty("heats 12345;", 6);
            faulty("heats ownn;", 6);
            readsE("not1or0and1<2");
            readsE("1or thing and(2)");
            reads("heats1;calms2;feels3;");
            reads("heats(1);calms-1;feels not1;");
        });
        Due.sentence(7, "WORDS (a .. z)", () -> {
            faulty("heats thinga;", 6);
            faulty("heats thingz;", 6);
            faulty("heats athing;", 6);
            faulty("heats zthing;", 6);
            faulty("heats thing`;", 11);
            faulty("heats thing{;", 11);
            faulty("heats thingA;", 11);
            faulty("heats Thing;", 6);
            faulty("heats a;", 6);
            faulty("heats z;", 6);
        });
        Due.sentence(7, "NUMBERS (as many digits as stand there, 4 at most)", () -> {
            readsE("0");
            readsE("9");
            readsE("0000");
            readsE("9999");
            faulty("heats 00000;", 6);
            faulty("heats 10000;", 6);
            faulty("heats 99999;", 6);
            faulty("heats 1234 5678 90123;", 11);
            faulty("heats 1+12345;", 8);
            faulty("heats 1/;", 7);
            faulty("heats 1:;", 7);
            faulty("heats 1 2;", 8);
            answers("0007", 7);
            answers("0099", 99);
            answers("1203-1199", 4);
            answers("9876-9800", 76);
            answers("5432-5400", 32);
        });
        Due.sentence(7, "SIGNS ( ) ; + - * < = ;", TextsTest::everyByte);
        Due.sentence(7, "blanks (32, 10) may stand between", () -> {
            reads("\n heats \n 1 \n;\n\ncalms  2;feels 3; \n\n");
            readsE(" ( - thing ) * 2 ");
            faulty("he ats 1;", 0);
            faulty("heats th ing;", 6);
            faulty("heats 1 1;", 8);
            faulty("heats 1\r;", 7);
            faulty("heats 1\t;", 7);
        });
    }

    /** Behind a number, and behind a KEY: which of all bytes can stand there, and where the text ends then. */
    private static void everyByte() {
        for (int b = 0; b < 256; b++) {
            boolean isBlank = b == 32 || b == 10;
            boolean goesOn = isBlank || b == ';' || b == '+' || b == '-' || b == '*' || b == '<' || b == '=';
            faulty("heats 7 " + (char) b, goesOn ? 9 : 8);
            boolean begins = isBlank || b == '(' || b == '-' || b >= '0' && b <= '9';
            faulty("heats " + (char) b, begins ? 7 : 6);
            faulty("heats (1" + (char) b, goesOn && b != ';' || b == ')' || b >= '0' && b <= '9' ? 9 : 8);
            faulty("" + (char) b, isBlank ? 1 : 0);
        }
    }

    private static void text() {
        Due.sentence(7, "TEXT: heats E ; calms E ; feels E ;", () -> {
            reads("heats 1;calms 2;feels 3;");
            faulty("calms 1;heats 2;feels 3;", 0);
            faulty("heats 1;feels 2;calms 3;", 8);
            faulty("heats 1;heats 2;feels 3;", 8);
            faulty("heats 1;calms 2;calms 3;", 16);
            faulty("heats 1;calms 2;", 16);
            faulty("heats 1 calms 2;feels 3;", 8);
            faulty("heats 1;calms 2 feels 3;", 16);
            faulty("heats 1;calms 2;feels 3", 23);
            faulty("heats 1;calms 2;feels 3;;", 24);
            faulty("heats 1;calms 2;feels 3; heats 1;calms 2;feels 3;", 25);
            faulty("heats 1;calms 2;feels 3;A", 24);
            faulty("heats ;calms 2;feels 3;", 6);
            faulty("heats 1;calms ;feels 3;", 14);
            faulty("heats 1;calms 2;feels ;", 22);
            faulty(";", 0);
            faulty("1", 0);
            faulty("thing", 0);
        });
        Due.sentence(7, "NAMES are thing temper number day coat own; heats, calms, feels, or, and, not are KEYS.", () -> {
            String[] names = {"thing", "temper", "number", "day", "coat", "own"};
            for (String name : names) {
                reads("heats " + name + ";calms " + name + ";feels " + name + ";");
                faulty("heats 1;" + name, 8);
            }
            String[] keys = {"heats", "calms", "feels", "or", "and"};
            for (String key : keys) {
                faulty("heats " + key + " 1;", 6);
                faulty("heats 1 * " + key + ";", 10);
            }
            faulty("heats not;", 9);
            faulty("heats 1 * not 1;", 10);
            faulty("heats thin;", 6);
            faulty("heats tempe;", 6);
            faulty("heats numbers;", 6);
            faulty("heats days;", 6);
            faulty("heats coats;", 6);
            faulty("heats ow;", 6);
        });
    }

    private static void expressions() {
        Due.sentence(7, "E: AND { or AND }.", () -> {
            answers("0 or 0 or 5", 1);
            answers("0 or 0 or 0", 0);
            answers("1 or 0 and 0", 1);
            answers("0 and 0 or 1", 1);
            faulty("heats 1 or;", 10);
            faulty("heats 1 or or 1;", 11);
        });
        Due.sentence(7, "AND: NOT { and NOT }.", () -> {
            answers("4 and 2 and 1", 1);
            answers("1 and 1 and 0", 0);
            answers("not 0 and 0", 0);
            answers("1 and not 0", 1);
            answers("0 < 1 and 0 < 1", 1);
            faulty("heats 1 and;", 11);
        });
        Due.sentence(7, "NOT: not NOT, or SUM, perhaps < or = and a SUM.", () -> {
            answers("not 0 < 0", 1);
            answers("not 0+1", 0);
            answers("not not 7", 1);
            answers("not not 0", 0);
            answers("2+2 < 2*3", 1);
            answers("1+2 = 2+1", 1);
            faulty("heats 1<2<3;", 9);
            faulty("heats 1=2=3;", 9);
            faulty("heats 1<2=1;", 9);
            faulty("heats 1<not 1;", 8);
            faulty("heats 1=not 1;", 8);
            faulty("heats 1<;", 8);
            faulty("heats <1;", 6);
        });
        Due.sentence(7, "SUM: TERM { + or - TERM }.", () -> {
            answers("10-2-3", 5);
            answers("1-2+3", 2);
            answers("1+2*3", 7);
            answers("2*3+1", 7);
            faulty("heats 1+not 1;", 8);
            faulty("heats +1;", 6);
            faulty("heats 1+;", 8);
            faulty("heats 1-;", 8);
        });
        Due.sentence(7, "TERM: ONE { * ONE }.", () -> {
            answers("2*3*4", 24);
            answers("2*(3+4)", 14);
            answers("2*-3*-1", 6);
            faulty("heats *1;", 6);
            faulty("heats 2*;", 8);
        });
        Due.sentence(7, "ONE: a NUMBER, a NAME, - ONE, ( E ).", () -> {
            answers("-2+5", 3);
            answers("9--3", 12);
            answers("9---3", 6);
            answers("-2*-3", 6);
            answers("-(2-9)", 7);
            answers("(7 or 0)+(0 = 0)", 2);
            answers("(not 0)+1", 2);
            answers("thing-number", 3);
            faulty("heats ();", 7);
            faulty("heats (1;", 8);
            faulty("heats 1);", 7);
            faulty("heats (1 2);", 9);
            faulty("heats -;", 7);
            faulty("heats -not 1;", 7);
        });
    }

    private static void ints() {
        Due.sentence(5, "An E is an int (32 bits, wrapping)", () -> {
            answers(MOST + "+1 < 0", 1);
            answers("-(" + MOST + ")-1-1 = " + MOST, 1);
            answers("-(-(" + MOST + ")-1) < 0", 1);
            answers("(-(" + MOST + ")-1)*-1 < 0", 1);
            answers("(" + MOST + ")*2 = -2", 1);
            answers("(" + MOST + ")*(" + MOST + ") = 1", 1);
            answers("-(" + MOST + ")-1 < " + MOST, 1);
            answers(MOST + " < -(" + MOST + ")", 0);
            answers(MOST, 99);
            answers(MOST + "+1", 0);
            answers("(" + MOST + ")*2+9", 7);
        });
        Due.sentence(5, "of or, and, not, <, = 1 or 0 (what is not 0 is true)", () -> {
            answers("-1 or 0", 1);
            answers("0 or -1", 1);
            answers("0 or 0", 0);
            answers("-1 and 2", 1);
            answers("2 and 1", 1);
            answers("2 and 0", 0);
            answers("0 and 2", 0);
            answers("not -1", 0);
            answers("not 9999", 0);
            answers("not 0", 1);
            answers("(8 or 8)+(8 and 8)+(8 = 8)+(8 < 9)+(not 0)", 5);
            answers("(3 < 3)+(3 < 2)+(3 = 2)+(2 = 3)", 0);
            answers("(2 < 3)+(-1 < 0)+(-2 < -1)", 3);
            answers("-1 = 1", 0);
        });
    }

    private static void fault() {
        Due.sentence(7, "(the text's size, if it ends too early)", () -> {
            String all = "heats 7 ; calms thing ; feels thing * 3 ;";
            for (int size = 0; size < all.length(); size++) {
                String piece = all.substring(0, size);
                String last = piece.substring(piece.lastIndexOf(' ') + 1);
                boolean isTorn = !last.isEmpty() && "heats calms feels thing".contains(last) && last.length() < 5;
                faulty(piece, isTorn ? size - last.length() : size);
            }
            faulty("\n", 1);
            faulty("heats 1;calms 2;feels 3 \n ", 26);
            faulty("heats (1 ", 9);
            faulty("heats 1 or ", 11);
            faulty("heats -", 7);
        });
        Due.sentence(7, "the place of the first byte of the first TOKEN that can't stand there", () -> {
            faulty("  calms 1;", 2);
            faulty("heats  ) 12345 A", 7);
            faulty("heats 1  thing;", 9);
            faulty("heats 1 )A", 8);
            faulty("heats 7 7 12345", 8);
        });
        Due.sentence(7, "also of a byte that begins none", () -> {
            String none = "\u0000\t\r!\"#$%&',./:>?@AZ[\\]^_`{|}~\u007f\u0080\u00a0\u00e9\u00ff";
            for (int i = 0; i < none.length(); i++) {
                faulty("heats 1 " + none.charAt(i) + ";", 8);
                faulty("heats 1;calms 2;feels 3;" + none.charAt(i), 24);
            }
        });
        Due.sentence(7, "a WORD that is neither KEY nor NAME", () -> {
            faulty("heats thing + rule;", 14);
            faulty("heat 1;", 0);
            faulty("heats 1 xor 1;", 8);
            faulty("heats 1;calms 2;feels 3; x", 25);
        });
        Due.sentence(7, "a NUMBER that is too long", () -> {
            faulty("heats 1 + 00001;", 10);
            faulty("heats 1;calms 2;feels 12345", 22);
        });
        opens();
    }

    private static void opens() {
        Due.sentence(7, "a ( , a not, a - ahead of a ONE while 5 of these are open", () -> {
            readsE("(((((1)))))");
            faulty("heats ((((((1))))));", 11);
            readsE("-----1");
            faulty("heats ------1;", 11);
            readsE("not not not not not 1");
            faulty("heats not not not not not not 1;", 26);
            readsE("not(-(not 1))");
            readsE("not not(-(1))");
            faulty("heats not not(-(-1));", 16);
            faulty("heats not not(-(not 1));", 16);
            faulty("heats not not((((1))));", 16);
            faulty("heats -(-((-(1))));", 11);
            faulty("heats not not not not not -1;", 26);
            faulty("heats not not not not not (1);", 26);
            faulty("heats -----(1);", 11);
            faulty("heats (((((-1)))));", 11);
            faulty("heats (((((not 1)))));", 11);
            faulty("heats 1;calms ((((((1))))));", 19);
            faulty("heats 1;calms 1;feels 1*------1;", 29);
        });
        Due.sentence(7, "a - ahead of a ONE while 5 of these are open", () -> {
            readsE("(((((1-1)))))");
            readsE("not not not not not 1-1");
            readsE("-----1-1");
            faulty("heats (((((1--1)))));", 13);
            faulty("heats (((((1*-1)))));", 13);
        });
        Due.sentence(7, "(a ( till its ) , not and - till what they belong to ends)", () -> {
            readsE("(((((1)))))+(((((1)))))*-----1");
            readsE("((((1))))-((((1))))");
            readsE("((((1)+(2))+(3))+(((4))))");
            faulty("heats ((((1)+(((2))))));", 15);
            readsE("-----1*-----1+-----1");
            readsE("(-1+-1+-1+-1+-1+----1)");
            readsE("not not not not not 1 and not 1 or not not not not not 1");
            faulty("heats not not not not not 1 < (1);", 30);
            faulty("heats not not not not not 1 = -1;", 30);
            faulty("heats not not not not not 1 * (1);", 30);
            readsE("not not not not (1) < (1) and (((((1)))))");
            readsE("(not not not not 1)+(((((1)))))");
            faulty("heats (not not not not (1))+1;", 23);
            reads("heats (((((1)))));calms (((((1)))));feels not not not not not 1;");
        });
    }

    private static void promises() {
        Due.sentence(7, "There are 6 TEXTS at most, TEXT 0 with them.", () -> {
            SewnUp x = new SewnUp();
            Due.is("count(3)", x.count(3), 1);
            for (int i = 1; i < 6; i++) {
                Due.feed(x, Due.RULE);
                Due.is("text()", x.text(), i);
                Due.is("count(3)", x.count(3), i + 1);
            }
            Due.feed(x, Due.RULE);
            Due.is("text()", x.text(), -4);
            Due.is("count(3)", x.count(3), 6);
            for (int i = 0; i < 6; i++) {
                Due.is("force(" + i + ")", x.force(i), Math.max(0, i - 1));
            }
            Due.is("force(6)", x.force(6), -2);
        });
        Due.sentence(7, "THE TAPE, which is empty then (by a FAULT, too), is a TEXT: its number;", () -> {
            SewnUp x = new SewnUp();
            Due.feed(x, Due.RULE);
            Due.is("text()", x.text(), 1);
            Due.is("count(4)", x.count(4), 0);
            Due.is("text() of the empty tape", x.text(), -100);
            Due.feed(x, "heats A");
            Due.is("text()", x.text(), -106);
            Due.is("count(4)", x.count(4), 0);
            Due.is("count(3)", x.count(3), 2);
            Due.is("feed(104)", x.feed(104), 1);
            Due.feed(x, "eats 4;calms 5;feels 6;");
            Due.is("text()", x.text(), 2);
            x.groom(0, 0, 0);
            Due.is("THE RULE stays", x.told(0, 8), 7);
            x.force(1);
            Due.is("TEXT 1", x.told(0, 8), 1);
            x.force(2);
            Due.is("TEXT 2", x.told(0, 8), 4);
        });
        Due.sentence(7, "THE TAPE, which is empty then (by a FAULT, too), is a TEXT: its number;", () -> {
            SewnUp x = Due.alike(1);
            for (int k = 0; k < 3; k++) {
                Due.feed(x, "heats 1" + times("+1", 40) + ";calms 1;feels not -1;A");
                Due.is("text() of a long one with a FAULT", x.text(), -100 - 109);
            }
            String heats = "heats 1" + times("+1", 54);
            Due.feed(x, heats + ";calms 2;feels 3;");
            Due.is("text() behind FAULTS", x.text(), 1);
            x.force(1);
            Due.is("HEATS", x.told(0, 8), 55);
            Due.is("CALMS", x.told(0, 9), 2);
            Due.is("FEELS: nothing is left of what had a FAULT", x.told(0, 10), 3);
        });
        Due.sentence(7, "THE TAPE, which is empty then (by a FAULT, too), is a TEXT: its number;", () -> {
            SewnUp x = Due.alike(1);
            Due.feed(x, "heats 1;calms 2;feels -3;A");
            Due.is("text()", x.text(), -125);
            Due.force(x, "heats 4;calms 5;feels 6;");
            Due.is("FEELS: no sign is left of what had a FAULT", x.told(0, 10), 6);
        });
        Due.sentence(7, "-100 less the place of its FAULT", () -> {
            faulty("", 0);
            faulty("A", 0);
            faulty(times(" ", 159) + "A", 159);
            faulty(times(" ", 160), 160);
        });
        Due.sentence(7, "FULL (ahead of all): no TEXT more has room (THE TAPE stays).", () -> {
            String[] tapes = {"", "heats A", Due.RULE};
            for (String tape : tapes) {
                SewnUp x = new SewnUp();
                for (int i = 1; i < 6; i++) {
                    Due.force(x, Due.RULE);
                }
                Due.feed(x, tape);
                Due.is("text()", x.text(), -4);
                Due.is("count(4)", x.count(4), tape.length());
                Due.is("text()", x.text(), -4);
                Due.is("feed(32)", x.feed(32), tape.length() + 1);
            }
        });
        Due.sentence(8, "A TEXT is THE RULE: which was. BAD.", () -> {
            SewnUp x = Due.alike(1);
            Due.is("force(0)", x.force(0), 0);
            Due.is("force(1), none yet", x.force(1), -2);
            Due.feed(x, Due.RULE);
            x.text();
            Due.is("force(2)", x.force(2), -2);
            Due.is("force(-1)", x.force(-1), -2);
            Due.is("force(1)", x.force(1), 0);
            Due.is("force(1)", x.force(1), 1);
            Due.is("HEATS", x.told(0, 8), 1);
            Due.is("CALMS", x.told(0, 9), 2);
            Due.is("FEELS", x.told(0, 10), 3);
            Due.is("force(0)", x.force(0), 1);
            Due.is("HEATS", x.told(0, 8), 7);
        });
        Due.sentence(6, "A byte (0 .. 255) comes behind THE TAPE: how many it has. BAD; FULL.", () -> {
            SewnUp x = new SewnUp();
            Due.is("feed(0)", x.feed(0), 1);
            Due.is("feed(255)", x.feed(255), 2);
            Due.is("feed(-1)", x.feed(-1), -2);
            Due.is("feed(256)", x.feed(256), -2);
            Due.is("count(4)", x.count(4), 2);
            for (int i = 3; i <= 160; i++) {
                Due.is("feed(104)", x.feed(104), i);
            }
            Due.is("feed(104)", x.feed(104), -4);
            Due.is("feed(-1) ahead of FULL", x.feed(-1), -2);
            Due.is("feed(256) ahead of FULL", x.feed(256), -2);
            Due.is("count(4)", x.count(4), 160);
        });
    }

    public static void main(String[] args) {
        tape();
        tokens();
        text();
        expressions();
        ints();
        fault();
        promises();
        Due.end();
    }
}
