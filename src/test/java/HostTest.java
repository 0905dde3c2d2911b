// Promises 1 to 5 and 24 to 28 (Terms 3), sentence by sentence: a new object, grooms and coats, sheets.
public final class HostTest {
    private static final int[] FAR = {Due.MAX, Due.MIN, 1000, -1000};

    private static void newObject() {
        Due.sentence(1, "No GROOMS.", () -> {
            SewnUp x = new SewnUp();
            int[] counts = {0, 0, 0, 1, 0, 0};
            for (int what = 0; what < 6; what++) {
                Due.is("count(" + what + ")", x.count(what), counts[what]);
            }
            for (int what = 2; what <= 10; what++) {
                Due.is("told(0, " + what + ")", x.told(0, what), -2);
            }
            Due.is("back()", x.back(), -3);
        });
        Due.sentence(1, "No GROOMS.", () -> {
            SewnUp x = Due.ruled(Due.RULE, Due.g(0, 1, 2), Due.g(1, 3, 4));
            x.image();
            x.film(0);
            x.feed(32);
            SewnUp other = new SewnUp();
            Due.is("another object's count(0)", other.count(0), 0);
            Due.is("another object's count(3)", other.count(3), 1);
            Due.is("another object's count(4)", other.count(4), 0);
            Due.is("another object's back()", other.back(), -3);
            Due.is("another object's tells(0, 0)", other.tells(0, 0), -11);
            other.groom(5, 5, 5);
            other.set(0, 0, 9);
            Due.is("told(0, 5)", x.told(0, 5), 0);
            Due.is("told(0, 0)", x.told(0, 0), 0);
            Due.is("HEATS", x.told(0, 8), 1);
            Due.is("another object's HEATS", other.told(0, 8), 14);
        });
        Due.sentence(0, "An object is used for at most 512 calls after it has been made", () -> {
            SewnUp x = new SewnUp();
            for (int call = 1; call <= 511; call++) {
                Due.is("call " + call, x.set(0, 0, call), call - 1);
            }
            Due.is("call 512", x.told(0, 0), 511);
        });
    }

    private static void set() {
        int[] first = {0, 60, 0, 0, 20};
        int[] last = {999, 99, 9, 15, 99};
        Due.sentence(2, "of a GROOM becomes v: what it was. BAD.", () -> {
            for (int what = 0; what < 5; what++) {
                SewnUp x = Due.alike(6);
                String call = "set(" + what + ", ";
                Due.is(call + "5, last)", x.set(what, 5, last[what]), first[what]);
                Due.is(call + "5, last + 1)", x.set(what, 5, last[what] + 1), -2);
                Due.is(call + "5, MAX)", x.set(what, 5, Due.MAX), -2);
                Due.is(call + "5, 0)", x.set(what, 5, 0), last[what]);
                Due.is(call + "5, -1)", x.set(what, 5, -1), -2);
                Due.is(call + "5, MIN)", x.set(what, 5, Due.MIN), -2);
                Due.is("told(5, " + what + ")", x.told(5, what), 0);
                Due.is("told(0, " + what + ")", x.told(0, what), what < 2 ? 0 : first[what]);
            }
        });
        Due.sentence(2, "DAY (what 0; of does not matter), LIMIT (1; nor)", () -> {
            SewnUp x = new SewnUp();
            int[] ofs = {-1, 0, 6, Due.MAX, Due.MIN};
            int was = 0;
            for (int of : ofs) {
                Due.is("set(0, " + of + ", v)", x.set(0, of, was + 1), was);
                Due.is("set(1, " + of + ", v)", x.set(1, of, was + 1), was == 0 ? 60 : was);
                was++;
                Due.is("told(" + of + ", 0)", x.told(of, 0), was);
                Due.is("told(" + of + ", 1)", x.told(of, 1), was);
            }
            Due.is("set(0, -1, 1000)", x.set(0, -1, 1000), -2);
            Due.is("set(1, -1, 100)", x.set(1, -1, 100), -2);
        });
        Due.sentence(2, "NUMBER (2), THING (3), TEMPER (4) of a GROOM becomes v: what it was. BAD.", () -> {
            for (int size = 0; size <= 6; size++) {
                SewnUp x = Due.alike(size);
                for (int what = 2; what <= 4; what++) {
                    for (int of = -1; of <= 6; of++) {
                        boolean isOne = of >= 0 && of < size;
                        Due.is("set(" + what + ", " + of + ", 7) of " + size, x.set(what, of, 7), isOne ? first[what] : -2);
                    }
                    Due.is("set(" + what + ", MAX, 7)", x.set(what, Due.MAX, 7), -2);
                    Due.is("set(" + what + ", MIN, 7)", x.set(what, Due.MIN, 7), -2);
                }
                int[] whats = {-1, 5, 6, Due.MAX, Due.MIN};
                for (int what : whats) {
                    Due.is("set(" + what + ", 0, 0) of " + size, x.set(what, 0, 0), -2);
                }
            }
        });
    }

    private static void groomAndChange() {
        Due.sentence(3, "A GROOM: his number. BAD; FULL.", () -> {
            for (int kind = -2; kind <= 7; kind++) {
                Due.is("groom(" + kind + ", 0, 0)", new SewnUp().groom(kind, 0, 0), kind < 0 || kind > 5 ? -2 : 0);
            }
            for (int number = -2; number <= 11; number++) {
                Due.is("groom(0, " + number + ", 0)", new SewnUp().groom(0, number, 0), number < 0 || number > 9 ? -2 : 0);
            }
            for (int thing = -2; thing <= 17; thing++) {
                Due.is("groom(0, 0, " + thing + ")", new SewnUp().groom(0, 0, thing), thing < 0 || thing > 15 ? -2 : 0);
            }
            for (int far : FAR) {
                Due.is("groom(far, 0, 0)", new SewnUp().groom(far, 0, 0), -2);
                Due.is("groom(0, far, 0)", new SewnUp().groom(0, far, 0), -2);
                Due.is("groom(0, 0, far)", new SewnUp().groom(0, 0, far), -2);
            }
            SewnUp x = new SewnUp();
            for (int kind = 0; kind < 6; kind++) {
                Due.is("GROOM " + kind, x.groom(kind, kind + 4, 15 - kind), kind);
            }
            Due.is("FULL", x.groom(0, 0, 0), -4);
            Due.is("BAD ahead of FULL", x.groom(6, 0, 0), -2);
            Due.is("BAD ahead of FULL", x.groom(0, 10, 0), -2);
            Due.is("BAD ahead of FULL", x.groom(0, 0, 16), -2);
            Due.is("BAD ahead of FULL", x.groom(0, 0, -1), -2);
            for (int g = 0; g < 6; g++) {
                int[] told = {g + 4, 15 - g, 20, g, g, 15 - g};
                for (int what = 2; what <= 7; what++) {
                    Due.is("told(" + g + ", " + what + ")", x.told(g, what), told[what - 2]);
                }
            }
        });
        Due.sentence(4, "Two truly change the COATS they WEAR: whose the first WEARS then.", () -> {
            SewnUp x = Due.alike(6);
            Due.is("change(0, 5)", x.change(0, 5), 5);
            Due.is("change(0, 5) back", x.change(0, 5), 0);
            Due.is("change(5, 0)", x.change(5, 0), 0);
            Due.is("change(5, 3)", x.change(5, 3), 3);
            Due.is("change(0, 3)", x.change(0, 3), 0);
            int[] wears = {0, 1, 2, 5, 4, 3};
            for (int g = 0; g < 6; g++) {
                Due.is("told(" + g + ", 6)", x.told(g, 6), wears[g]);
            }
        });
        Due.sentence(4, "BAD: no such, one and the same.", () -> {
            for (int size = 0; size <= 6; size++) {
                SewnUp x = Due.alike(size);
                for (int one = -1; one <= 6; one++) {
                    for (int other = -1; other <= 6; other++) {
                        boolean isSo = one >= 0 && one < size && other >= 0 && other < size && one != other;
                        boolean isDone = x.change(one, other) != -2;
                        Due.is("change(" + one + ", " + other + ") of " + size, isDone ? 1 : 0, isSo ? 1 : 0);
                    }
                }
                for (int far : FAR) {
                    Due.is("change(0, far)", x.change(0, far), -2);
                    Due.is("change(far, 0)", x.change(far, 0), -2);
                    Due.is("change(far, far)", x.change(far, far), -2);
                }
            }
        });
        Due.sentence(5, "What 0 .. 4 as of set(), 5 KIND, 6 whose COAT he WEARS, 7 what he HAS, 8 HEATS, 9 CALMS, 10 FEELS. BAD.", () -> {
            for (int size = 0; size <= 6; size++) {
                SewnUp x = Due.alike(size);
                for (int of = -1; of <= 7; of++) {
                    for (int what = -2; what <= 12; what++) {
                        boolean isOne = of >= 0 && of < size;
                        boolean isSo = what == 0 || what == 1 || isOne && what >= 2 && what <= 10;
                        Due.is("told(" + of + ", " + what + ") of " + size, x.told(of, what) == -2 ? 0 : 1, isSo ? 1 : 0);
                    }
                }
                for (int far : FAR) {
                    Due.is("told(0, far)", x.told(0, far), -2);
                    Due.is("told(far, 2)", x.told(far, 2), -2);
                    Due.is("told(far, 10)", x.told(far, 10), -2);
                }
            }
            SewnUp x = Due.house(Due.g(1, 2, 3), Due.g(4, 5, 6));
            x.change(0, 1);
            int[] told = {0, 60, 2, 3, 20, 1, 1, 6, 10, 6, 18};
            for (int what = 0; what <= 10; what++) {
                Due.is("told(0, " + what + ")", x.told(0, what), told[what]);
            }
        });
    }

    private static void sheets() {
        Due.sentence(24, "SHEETS 0 .. 3 are rows of numbers, or missing (as all are at first)", () -> {
            SewnUp x = new SewnUp();
            for (int s = -2; s <= 6; s++) {
                boolean isOne = s >= 0 && s <= 3;
                Due.is("cell(" + s + ", 0, 0)", x.cell(s, 0, 0), isOne ? -11 : -2);
                Due.is("sheet(" + s + ", 0, 1)", x.sheet(s, 0, 1), isOne ? 1 : -2);
                Due.is("cell(" + s + ", 0, 0)", x.cell(s, 0, 0), isOne ? 1 : -2);
            }
            for (int far : FAR) {
                Due.is("sheet(far, 0, 1)", x.sheet(far, 0, 1), -2);
                Due.is("cell(far, 0, 0)", x.cell(far, 0, 0), -2);
            }
        });
        Due.sentence(24, "of sort 0 bytes, 1 shorts, 2 ints", () -> {
            for (int sort = 0; sort <= 2; sort++) {
                SewnUp x = new SewnUp();
                x.sheet(0, sort, 3);
                for (int asked = 0; asked <= 2; asked++) {
                    Due.is("grooms of sort " + asked, x.grooms(0, asked, 0, 1), asked == sort ? 1 : -13);
                }
            }
        });
        Due.sentence(24, "A SHEET becomes a row of n of a sort, all 0, or missing (sort -1: n does not matter): 1.", () -> {
            for (int sort = 0; sort <= 2; sort++) {
                SewnUp x = new SewnUp();
                Due.is("sheet(0, sort, 0)", x.sheet(0, sort, 0), 1);
                Due.is("an item of none", x.cell(0, 0, 5), -12);
                Due.is("sheet(0, sort, 40)", x.sheet(0, sort, 40), 1);
                for (int i = 0; i < 40; i++) {
                    Due.is("item " + i, x.cell(0, i, 5), 1);
                }
                Due.is("item 40", x.cell(0, 40, 5), -12);
                x.sheet(0, sort, 3);
                Due.is("item 3 of a shorter one", x.cell(0, 3, 5), -12);
                x.sheet(0, sort, 40);
                for (int i = 0; i < 36; i += 3) {
                    x.image();
                    Due.is("grooms", x.grooms(0, sort, i, 1), i < 18 ? 1 : 0);
                    Due.is("all 0", x.told(x.count(0) - 1, 5) + x.told(x.count(0) - 1, 2) + x.told(x.count(0) - 1, 3), 0);
                }
                int[] sizes = {0, 40, 41, -1, Due.MAX, Due.MIN};
                for (int n : sizes) {
                    Due.is("sheet(0, -1, " + n + ")", x.sheet(0, -1, n), 1);
                    Due.is("missing", x.cell(0, 0, 0), -11);
                    x.sheet(0, sort, 1);
                }
            }
        });
        Due.sentence(24, "BAD: no such SHEET, sort; n above 40; -14.", () -> {
            SewnUp x = new SewnUp();
            for (int sort = -3; sort <= 5; sort++) {
                boolean isSo = sort >= -1 && sort <= 2;
                Due.is("sheet(0, " + sort + ", 1)", x.sheet(0, sort, 1), isSo ? 1 : -2);
                Due.is("sheet(0, " + sort + ", 41)", x.sheet(0, sort, 41), sort == -1 ? 1 : -2);
                Due.is("sheet(0, " + sort + ", -1)", x.sheet(0, sort, -1), sort == -1 ? 1 : isSo ? -14 : -2);
                Due.is("sheet(4, " + sort + ", -1)", x.sheet(4, sort, -1), -2);
                Due.is("sheet(-1, " + sort + ", -1)", x.sheet(-1, sort, -1), -2);
                Due.is("sheet(0, " + sort + ", MIN)", x.sheet(0, sort, Due.MIN), sort == -1 ? 1 : isSo ? -14 : -2);
                Due.is("sheet(0, " + sort + ", MAX)", x.sheet(0, sort, Due.MAX), sort == -1 ? 1 : -2);
            }
            Due.is("sheet(0, MAX, 1)", x.sheet(0, Due.MAX, 1), -2);
            Due.is("sheet(0, MIN, 1)", x.sheet(0, Due.MIN, 1), -2);
            Due.is("sheet(0, 2, 40)", x.sheet(0, 2, 40), 1);
            Due.is("sheet(0, 2, 0)", x.sheet(0, 2, 0), 1);
        });
    }

    private static void cells() {
        Due.sentence(25, "Item i of a SHEET becomes v (of bytes, shorts its lowest 8, 16 bits): 1.", () -> {
            int[] beside = {0, 256, 65536, 1 << 24};
            for (int sort = 0; sort <= 2; sort++) {
                for (int more : beside) {
                    SewnUp x = Due.house(Due.g(0, 0, 15), Due.g(0, 0, 0));
                    x.sheet(0, sort, 2);
                    Due.is("cell(0, 0, 45 + " + more + ")", x.cell(0, 0, 45 + more), 1);
                    Due.is("cell(0, 1, -" + more + ")", x.cell(0, 1, -more), 1);
                    boolean isCut = more == 0 || sort == 0 || sort == 1 && more >= 65536;
                    Due.is("sort " + sort + ", " + more + " more", x.tells(0, 0), isCut ? 0 : 3);
                }
            }
            SewnUp x = new SewnUp();
            Due.row(x, 0, 0, 261, -247, 271, 261, 128, 0, 5, 0, 255);
            Due.is("bytes: 5, 9, 15 and what is below 0", x.grooms(0, 0, 0, 3), 1);
            Due.row(x, 1, 1, 65541, -65527, 65551, 5, 32768, 0, 5, 0, 65535);
            Due.is("shorts: 5, 9, 15 and what is below 0", x.grooms(1, 1, 0, 3), 1);
            for (int g = 0; g < 2; g++) {
                Due.is("KIND", x.told(g, 5), 5);
                Due.is("NUMBER", x.told(g, 2), 9);
                Due.is("THING", x.told(g, 3), 15);
            }
        });
        Due.sentence(25, "BAD: no such SHEET; -11; -12.", () -> {
            SewnUp x = new SewnUp();
            x.sheet(0, 0, 1);
            x.sheet(1, 2, 40);
            Due.is("cell(0, 0, 0)", x.cell(0, 0, 0), 1);
            Due.is("cell(0, 1, 0)", x.cell(0, 1, 0), -12);
            Due.is("cell(0, -1, 0)", x.cell(0, -1, 0), -12);
            Due.is("cell(1, 39, 0)", x.cell(1, 39, 0), 1);
            Due.is("cell(1, 40, 0)", x.cell(1, 40, 0), -12);
            for (int far : FAR) {
                Due.is("cell(0, far, 0)", x.cell(0, far, 0), -12);
                Due.is("cell(2, far, 0): -11 ahead of -12", x.cell(2, far, 0), -11);
                Due.is("cell(4, far, 0): BAD ahead of -11, -12", x.cell(4, far, 0), -2);
                Due.is("cell(-1, far, 0): BAD ahead of -11, -12", x.cell(-1, far, 0), -2);
            }
        });
    }

    /** Three items from i on of a SHEET of sort 2, read as a GROOM. */
    private static void holds(SewnUp x, int sheet, int i, int... items) {
        x.image();
        int g = x.count(0);
        Due.is("grooms(" + sheet + ", 2, " + i + ", 1)", x.grooms(sheet, 2, i, 1), 1);
        Due.is("item " + i, x.told(g, 5), items[0]);
        Due.is("item " + (i + 1), x.told(g, 2), items[1]);
        Due.is("item " + (i + 2), x.told(g, 3), items[2]);
        x.back();
    }

    private static void copies() {
        Due.sentence(26, "n numbers of a SHEET, from item i on, come to another one's item j on (as they were): n.", () -> {
            SewnUp x = new SewnUp();
            Due.row(x, 0, 2, 1, 2, 3, 4, 5, 0);
            Due.row(x, 1, 2, 5, 5, 5, 5, 5, 5, 5);
            Due.is("all", x.copy(0, 0, 1, 1, 6), 6);
            holds(x, 1, 0, 5, 1, 2);
            holds(x, 1, 4, 4, 5, 0);
            Due.is("none", x.copy(0, 0, 1, 0, 0), 0);
            Due.is("none, from its end to its end", x.copy(0, 6, 1, 7, 0), 0);
            Due.is("one, the last", x.copy(0, 5, 1, 6, 1), 1);
            Due.is("one, the first", x.copy(0, 0, 1, 0, 1), 1);
            holds(x, 1, 0, 1, 1, 2);
            holds(x, 0, 0, 1, 2, 3);
            holds(x, 0, 3, 4, 5, 0);
        });
        Due.sentence(26, "(as they were)", () -> {
            SewnUp x = new SewnUp();
            Due.row(x, 0, 2, 0, 1, 2, 3, 4, 5);
            Due.is("up onto itself", x.copy(0, 0, 0, 1, 5), 5);
            holds(x, 0, 0, 0, 0, 1);
            holds(x, 0, 3, 2, 3, 4);
            Due.row(x, 0, 2, 0, 1, 2, 3, 4, 5);
            Due.is("down onto itself", x.copy(0, 1, 0, 0, 5), 5);
            holds(x, 0, 0, 1, 2, 3);
            holds(x, 0, 3, 4, 5, 5);
            Due.is("onto where it is", x.copy(0, 0, 0, 0, 6), 6);
            holds(x, 0, 0, 1, 2, 3);
        });
        Due.sentence(26, "-12 (also with n below 0).", () -> {
            SewnUp x = new SewnUp();
            x.sheet(0, 1, 6);
            x.sheet(1, 1, 8);
            for (int i = -1; i <= 9; i++) {
                for (int j = -1; j <= 9; j += 2) {
                    for (int n = -1; n <= 6; n++) {
                        boolean isIn = i >= 0 && j >= 0 && n >= 0 && i + n <= 6 && j + n <= 8;
                        Due.is("copy(0, " + i + ", 1, " + j + ", " + n + ")", x.copy(0, i, 1, j, n), isIn ? n : -12);
                    }
                }
                x = new SewnUp();
                x.sheet(0, 1, 6);
                x.sheet(1, 1, 8);
            }
            for (int far : FAR) {
                Due.is("copy(0, far, 1, 0, 1)", x.copy(0, far, 1, 0, 1), -12);
                Due.is("copy(0, 0, 1, far, 1)", x.copy(0, 0, 1, far, 1), -12);
                Due.is("copy(0, 0, 1, 0, far)", x.copy(0, 0, 1, 0, far), -12);
                Due.is("copy(0, 1, 1, 1, far)", x.copy(0, 1, 1, 1, far), -12);
                Due.is("copy(0, far, 1, far, far)", x.copy(0, far, 1, far, far), -12);
            }
            x.sheet(2, 1, 0);
            Due.is("none of none", x.copy(2, 0, 2, 0, 0), 0);
            Due.is("one of none", x.copy(2, 0, 2, 0, 1), -12);
        });
        Due.sentence(26, "BAD: no such SHEET; -11; -13: they are of unlike sorts; -12", () -> {
            SewnUp x = new SewnUp();
            x.sheet(0, 0, 2);
            x.sheet(1, 1, 2);
            x.sheet(2, 2, 2);
            for (int a = -1; a <= 4; a++) {
                for (int b = -1; b <= 4; b++) {
                    boolean isBad = a < 0 || a > 3 || b < 0 || b > 3;
                    boolean isMissing = a == 3 || b == 3;
                    int refusal = isBad ? -2 : isMissing ? -11 : a != b ? -13 : -12;
                    String call = "copy(" + a + ", .., " + b + ", .., ..)";
                    Due.is(call, x.copy(a, 0, b, 0, 1), refusal == -12 ? 1 : refusal);
                    Due.is(call + " outside", x.copy(a, 2, b, 0, 1), refusal);
                    Due.is(call + " outside", x.copy(a, 0, b, 2, 1), refusal);
                    Due.is(call + " below", x.copy(a, 0, b, 0, -1), refusal);
                }
            }
            for (int far : FAR) {
                Due.is("copy(far, 0, 0, 0, 0)", x.copy(far, 0, 0, 0, 0), -2);
                Due.is("copy(0, 0, far, 0, 0)", x.copy(0, 0, far, 0, 0), -2);
            }
        });
    }

    private static void groomsOfSheets() {
        Due.sentence(27, "from one on, three by three (as of groom()), n of them (0 .. 6): how many came (others are left out).", () -> {
            SewnUp x = new SewnUp();
            Due.row(x, 0, 0, 5, 9, 15, 6, 0, 0, 0, 10, 0, 0, 0, 16, -1, 0, 0, 4, 0, 1, 1, 2, 3);
            Due.is("grooms(0, 0, 0, 0)", x.grooms(0, 0, 0, 0), 0);
            Due.is("count(0)", x.count(0), 0);
            Due.is("grooms(0, 0, 0, 6)", x.grooms(0, 0, 0, 6), 2);
            Due.is("count(0)", x.count(0), 2);
            Due.is("grooms(0, 0, 15, 2)", x.grooms(0, 0, 15, 2), 2);
            int[][] want = {{5, 9, 15}, {4, 0, 1}, {4, 0, 1}, {1, 2, 3}};
            for (int g = 0; g < 4; g++) {
                Due.is("KIND of " + g, x.told(g, 5), want[g][0]);
                Due.is("NUMBER of " + g, x.told(g, 2), want[g][1]);
                Due.is("THING of " + g, x.told(g, 3), want[g][2]);
                Due.is("TEMPER of " + g, x.told(g, 4), 20);
                Due.is("COAT of " + g, x.told(g, 6), g);
            }
            Due.is("grooms(0, 0, 2, 1): 15, 6, 0", x.grooms(0, 0, 2, 1), 0);
            x.sheet(1, 2, 40);
            Due.is("two have room", x.grooms(1, 2, 22, 6), 2);
            Due.is("none has room", x.grooms(1, 2, 22, 6), 0);
            Due.is("count(0)", x.count(0), 6);
        });
        Due.sentence(27, "-12: what stood ahead came.", () -> {
            SewnUp x = new SewnUp();
            x.sheet(0, 1, 8);
            Due.is("the third of two and two items", x.grooms(0, 1, 0, 3), -12);
            Due.is("count(0)", x.count(0), 2);
            Due.is("two of them", x.grooms(0, 1, 2, 2), 2);
            Due.is("count(0)", x.count(0), 4);
            Due.is("one item too few", x.grooms(0, 1, 3, 2), -12);
            Due.is("count(0)", x.count(0), 5);
            Due.is("from 5 on", x.grooms(0, 1, 5, 1), 1);
            Due.is("count(0)", x.count(0), 6);
            Due.is("from 6 on, FULL", x.grooms(0, 1, 6, 1), -12);
            Due.is("from 8 on, FULL", x.grooms(0, 1, 8, 1), -12);
            Due.is("inside, FULL", x.grooms(0, 1, 5, 1), 0);
            SewnUp y = new SewnUp();
            y.sheet(0, 1, 8);
            for (int far : FAR) {
                Due.is("grooms(0, 1, far, 1)", y.grooms(0, 1, far, 1), -12);
                Due.is("grooms(0, 1, far, 6)", y.grooms(0, 1, far, 6), -12);
            }
            Due.is("grooms(0, 1, -1, 2)", y.grooms(0, 1, -1, 2), -12);
            Due.is("grooms(0, 1, -3, 2)", y.grooms(0, 1, -3, 2), -12);
            Due.is("count(0)", y.count(0), 0);
            y.sheet(0, 1, 0);
            Due.is("one of none", y.grooms(0, 1, 0, 1), -12);
            Due.is("none of none", y.grooms(0, 1, 0, 0), 0);
        });
        Due.sentence(27, "BAD: no such SHEET, sort, n; -13; -11; -12", () -> {
            SewnUp x = new SewnUp();
            x.sheet(0, 0, 3);
            x.sheet(1, 1, 3);
            x.sheet(2, 2, 3);
            for (int s = -1; s <= 4; s++) {
                for (int sort = -1; sort <= 3; sort++) {
                    boolean isBad = s < 0 || s > 3 || sort < 0 || sort > 2;
                    int refusal = isBad ? -2 : s == 3 ? -11 : s != sort ? -13 : -12;
                    String call = "grooms(" + s + ", " + sort + ", ";
                    Due.is(call + "0, -1)", x.grooms(s, sort, 0, -1), -2);
                    Due.is(call + "0, 7)", x.grooms(s, sort, 0, 7), -2);
                    Due.is(call + "0, MAX)", x.grooms(s, sort, 0, Due.MAX), -2);
                    Due.is(call + "0, 0)", x.grooms(s, sort, 0, 0), refusal == -12 ? 0 : refusal);
                    Due.is(call + "1, 1)", x.grooms(s, sort, 1, 1), refusal);
                    Due.is(call + "-1, 6)", x.grooms(s, sort, -1, 6), refusal);
                }
            }
            Due.is("count(0)", x.count(0), 0);
            Due.is("grooms(0, MAX, 0, 0)", x.grooms(0, Due.MAX, 0, 0), -2);
            Due.is("grooms(MIN, 0, 0, 0)", x.grooms(Due.MIN, 0, 0, 0), -2);
        });
    }

    private static void taken() {
        Due.sentence(28, "A GROOM taken for one of KIND k (0 .. 5), or one under that one (also by others between): his NUMBER.", () -> {
            boolean[][] isUnder = {
                {true, false, false, false, false, false},
                {true, true, false, false, false, false},
                {true, false, true, false, false, false},
                {true, true, false, true, false, false},
                {true, false, true, false, true, false},
                {true, false, false, false, false, true}};
            SewnUp x = new SewnUp();
            for (int kind = 0; kind < 6; kind++) {
                x.groom(kind, kind == 0 ? 0 : 9, 0);
            }
            for (int g = 0; g < 6; g++) {
                for (int k = 0; k < 6; k++) {
                    Due.is("taken(" + g + ", " + k + ")", x.taken(g, k), isUnder[g][k] ? g == 0 ? 0 : 9 : -13);
                }
            }
        });
        Due.sentence(28, "BAD: k; -11: no such GROOM; -13.", () -> {
            for (int size = 0; size <= 6; size++) {
                SewnUp x = Due.alike(size);
                for (int g = -1; g <= 7; g++) {
                    for (int k = -1; k <= 6; k++) {
                        boolean isOne = g >= 0 && g < size;
                        int want = k < 0 || k > 5 ? -2 : !isOne ? -11 : k > 0 ? -13 : 0;
                        Due.is("taken(" + g + ", " + k + ") of " + size, x.taken(g, k), want);
                    }
                }
                for (int far : FAR) {
                    Due.is("taken(far, 0)", x.taken(far, 0), -11);
                    Due.is("taken(0, far)", x.taken(0, far), -2);
                    Due.is("taken(far, far)", x.taken(far, far), -2);
                }
            }
        });
    }

    public static void main(String[] args) {
        newObject();
        set();
        groomAndChange();
        sheets();
        cells();
        copies();
        groomsOfSheets();
        taken();
        Due.end();
    }
}
