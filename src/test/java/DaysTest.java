// Terms 2 and promises 9 to 16, sentence by sentence: days, rings, coats, keys.
public final class DaysTest {
    /** GROOM 0 with this TEMPER, under this LIMIT, by a text. */
    private static SewnUp one(String letters, int temper, int limit) {
        SewnUp x = Due.ruled(letters, Due.g(0, 0, 0));
        x.set(4, 0, temper);
        x.set(1, 0, limit);
        return x;
    }

    /** A DAY, truly and in thought: whether he BOILS over, and his TEMPER behind it. */
    private static void oneDay(String letters, int temper, int limit, int boils, int then) {
        SewnUp x = one(letters, temper, limit);
        String of = " of '" + letters + "', TEMPER " + temper + ", LIMIT " + limit;
        Due.is("run(1, 1)" + of, x.run(1, 1), boils);
        Due.is("run(1, 10)" + of, x.run(1, 10), then);
        Due.is("run(1, 20)" + of, x.run(1, 20), boils == 1 ? 0 : -1);
        Due.is("day()" + of, x.day(), boils);
        Due.is("TEMPER" + of, x.told(0, 4), then);
    }

    private static void aDay() {
        Due.sentence(9, "first he is HOTTER by HEATS (TEMPER 99 at most)", () -> {
            oneDay("heats 1;calms 0;feels 0;", 97, 99, 0, 98);
            oneDay("heats 1;calms 0;feels 0;", 98, 99, 1, 99);
            oneDay("heats 1;calms 0;feels 0;", 99, 99, 1, 99);
            oneDay("heats 99;calms 0;feels 0;", 0, 99, 1, 99);
            oneDay("heats 99;calms 10;feels 0;", 99, 60, 1, 89);
            oneDay("heats 0;calms 0;feels 0;", 0, 1, 0, 0);
            oneDay("heats temper;calms 0;feels 0;", 49, 99, 0, 98);
        });
        Due.sentence(9, "if it is LIMIT or more then, he BOILS over", () -> {
            oneDay("heats 5;calms 99;feels 0;", 34, 40, 0, 0);
            oneDay("heats 5;calms 99;feels 0;", 35, 40, 1, 0);
            oneDay("heats 5;calms 99;feels 0;", 36, 40, 1, 0);
            oneDay("heats 0;calms 0;feels 0;", 40, 40, 1, 40);
            oneDay("heats 0;calms 0;feels 0;", 39, 40, 0, 39);
            oneDay("heats 0;calms 0;feels 0;", 0, 0, 1, 0);
            oneDay("heats 0;calms 0;feels 0;", 98, 99, 0, 98);
        });
        Due.sentence(9, "then TEMPER is less by CALMS (0 at least), told then.", () -> {
            oneDay("heats 1;calms 5;feels 0;", 5, 99, 0, 1);
            oneDay("heats 1;calms 5;feels 0;", 4, 99, 0, 0);
            oneDay("heats 1;calms 5;feels 0;", 3, 99, 0, 0);
            oneDay("heats 10;calms temper-1;feels 0;", 30, 99, 0, 1);
            oneDay("heats 10;calms (temper=40)*7;feels 0;", 30, 99, 0, 33);
            oneDay("heats 9;calms (temper=99)*7;feels 0;", 95, 99, 1, 92);
        });
        Due.sentence(9, "All by numbers; then DAY is 1 more.", () -> {
            SewnUp x = Due.ruled("heats day;calms (day=3)*2;feels 0;", Due.g(0, 0, 0), Due.g(0, 0, 0), Due.g(0, 0, 0));
            x.set(0, 0, 3);
            x.day();
            for (int g = 0; g < 3; g++) {
                Due.is("told(" + g + ", 4)", x.told(g, 4), 21);
            }
            Due.is("DAY", x.told(0, 0), 4);
            Due.is("run(1, 0): all see the same DAY", x.run(1, 0), 75);
        });
        Due.sentence(9, "A DAY, truly: how many BOIL over.", () -> {
            SewnUp x = new SewnUp();
            Due.is("day() of none", x.day(), 0);
            Due.is("DAY", x.told(0, 0), 1);
            x = Due.alike(6);
            Due.is("day()", x.day(), 0);
            x.set(1, 0, 0);
            Due.is("day() by LIMIT 0", x.day(), 6);
            x.set(1, 0, 99);
            x.set(4, 2, 92);
            x.set(4, 4, 91);
            x.set(4, 5, 99);
            Due.is("day() by LIMIT 99", x.day(), 2);
            Due.is("DAY", x.told(0, 0), 3);
        });
        Due.sentence(9, "STATE: DAY is 999.", () -> {
            SewnUp x = Due.alike(1);
            x.set(0, 0, 998);
            Due.is("day() at 998", x.day(), 0);
            Due.is("DAY", x.told(0, 0), 999);
            Due.is("TEMPER", x.told(0, 4), 27);
            Due.is("day() at 999", x.day(), -3);
            Due.is("DAY", x.told(0, 0), 999);
            Due.is("TEMPER", x.told(0, 4), 27);
            SewnUp none = new SewnUp();
            none.set(0, 0, 999);
            Due.is("day() of none at 999", none.day(), -3);
        });
    }

    private static void days() {
        Due.sentence(23, "WARM: TEMPERS of all, together.", () -> {
            SewnUp x = new SewnUp();
            Due.is("count(1) of none", x.count(1), 0);
            x = Due.alike(6);
            Due.is("count(1)", x.count(1), 120);
            for (int g = 0; g < 6; g++) {
                x.set(4, g, 99);
            }
            Due.is("count(1)", x.count(1), 594);
            for (int g = 0; g < 6; g++) {
                x.set(4, g, 0);
            }
            Due.is("count(1)", x.count(1), 0);
        });
        Due.sentence(10, "n DAYS (0 .. 40), in thought (there DAY may pass 999)", () -> {
            SewnUp x = one("heats (day=999)+2*(day=1000)+4*(day=1038)+8*(day=1039);calms 0;feels 0;", 0, 60);
            x.set(0, 0, 999);
            Due.is("run(0, 0)", x.run(0, 0), 0);
            Due.is("run(1, 0)", x.run(1, 0), 1);
            Due.is("run(2, 0)", x.run(2, 0), 3);
            Due.is("run(39, 0)", x.run(39, 0), 3);
            Due.is("run(40, 0)", x.run(40, 0), 7);
            Due.is("run(41, 0)", x.run(41, 0), -2);
            Due.is("run(-1, 0)", x.run(-1, 0), -2);
            Due.is("DAY", x.told(0, 0), 999);
            Due.is("TEMPER", x.told(0, 4), 0);
        });
        Due.sentence(10, "n DAYS (0 .. 40), in thought (there DAY may pass 999)", () -> {
            SewnUp x = Due.ruled("heats 1;calms 0;feels 0;", Due.g(3, 0, 0));
            x.set(0, 0, 999);
            int[] warm = {20, 24, 28, 28, 32};
            for (int n = 0; n < 5; n++) {
                Due.is("a DROWNED behind " + n + " DAYS from 999 on", x.run(n, 10), warm[n]);
            }
        });
        Due.sentence(10, "WARM at last (what 0), how often all BOIL over (1)", () -> {
            SewnUp x = Due.alike(6);
            Due.is("run(0, 0)", x.run(0, 0), 120);
            Due.is("run(0, 1)", x.run(0, 1), 0);
            Due.is("run(40, 0)", x.run(40, 0), 594);
            x.set(1, 0, 0);
            Due.is("run(0, 1)", x.run(0, 1), 0);
            Due.is("run(1, 1)", x.run(1, 1), 6);
            Due.is("run(40, 1)", x.run(40, 1), 240);
            Due.is("run(40, 0) of none", new SewnUp().run(40, 0), 0);
            Due.is("run(40, 1) of none", new SewnUp().run(40, 1), 0);
        });
        Due.sentence(10, "TEMPER of GROOM what less 10 at last (10 ..)", () -> {
            SewnUp x = Due.alike(6);
            for (int g = 0; g < 6; g++) {
                x.set(4, g, 10 * g);
                Due.is("run(0, " + (10 + g) + ")", x.run(0, 10 + g), 10 * g);
                Due.is("run(40, " + (10 + g) + ")", x.run(40, 10 + g), 99);
            }
            Due.is("run(3, 15)", x.run(3, 15), 71);
        });
        Due.sentence(10, "in which he BOILS over first (what less 20: 20 ..; NONE)", () -> {
            SewnUp x = Due.ruled("heats 1;calms 0;feels 0;", Due.g(0, 0, 0), Due.g(0, 0, 0));
            Due.is("run(40, 20): the last of 40", x.run(40, 20), 39);
            Due.is("run(39, 20): one DAY too few", x.run(39, 20), -1);
            Due.is("run(0, 20)", x.run(0, 20), -1);
            x.set(4, 1, 59);
            Due.is("run(1, 21): the first", x.run(1, 21), 0);
            Due.is("run(40, 21): the first of many", x.run(40, 21), 0);
            x.set(4, 1, 58);
            Due.is("run(40, 21)", x.run(40, 21), 1);
            Due.is("run(0, 21)", x.run(0, 21), -1);
        });
        Due.sentence(10, "TEMPER of GROOM what less 10 at last (10 ..), in which he BOILS over first", () -> {
            for (int size = 0; size <= 6; size++) {
                SewnUp x = Due.alike(size);
                for (int what = -3; what <= 40; what++) {
                    boolean isSo = what == 0 || what == 1 || what >= 10 && what < 10 + size
                        || what >= 20 && what < 20 + size;
                    Due.is("run(1, " + what + ") of " + size, x.run(1, what) == -2 ? 0 : 1, isSo ? 1 : 0);
                }
                Due.is("run(1, MAX)", x.run(1, Due.MAX), -2);
                Due.is("run(1, MIN)", x.run(1, Due.MIN), -2);
                Due.is("run(MAX, 0)", x.run(Due.MAX, 0), -2);
                Due.is("run(MIN, 0)", x.run(Due.MIN, 0), -2);
            }
        });
    }

    private static void rings(SewnUp x, int many, int most, int right, int first, int own) {
        int[] want = {many, most, right, first, own};
        for (int what = 0; what < 5; what++) {
            Due.is("rings(" + what + ")", x.rings(what), want[what]);
        }
    }

    /** All WEAR the next one's COAT, in this order, round. */
    private static void round(SewnUp x, int... ring) {
        for (int i = 0; i + 1 < ring.length; i++) {
            x.change(ring[i], ring[i + 1]);
        }
    }

    private static void ringsAndChanges() {
        Due.sentence(11, "RINGS: GROOMS each of whom WEARS the next one's COAT, round; who WEARS his OWN is one alone.", () -> {
            rings(new SewnUp(), 0, 0, 0, -1, 0);
            rings(Due.alike(1), 1, 1, 0, -1, 1);
            rings(Due.alike(6), 6, 1, 0, -1, 63);
            SewnUp x = Due.alike(6);
            round(x, 0, 1, 2, 3, 4, 5);
            rings(x, 1, 6, 5, 1, 0);
            x = Due.alike(6);
            round(x, 0, 5);
            round(x, 1, 4);
            round(x, 2, 3);
            rings(x, 3, 2, 3, 5, 0);
            x = Due.alike(6);
            round(x, 5, 4, 3);
            rings(x, 4, 3, 2, 34, 7);
        });
        Due.sentence(11, "of like ones the first; NONE. CHANGE (n)", () -> {
            SewnUp x = Due.alike(6);
            round(x, 1, 5, 3);
            Due.is("of 13, 15, 35", x.rings(3), 13);
            round(x, 0, 4);
            Due.is("a RING that begins earlier", x.rings(3), 4);
            x = Due.alike(6);
            round(x, 4, 5);
            Due.is("the last two", x.rings(3), 45);
            x.change(4, 5);
            Due.is("none", x.rings(3), -1);
        });
        Due.sentence(11, "RIGHT: how many changes (two change the COATS they WEAR) it takes at least till each WEARS his OWN.", () -> {
            SewnUp x = Due.alike(6);
            round(x, 0, 3, 5, 1, 2, 4);
            for (int left = 5; left > 0; left--) {
                Due.is("rings(2)", x.rings(2), left);
                int change = x.rings(3);
                x.change(change / 10, change % 10);
            }
            rings(x, 6, 1, 0, -1, 63);
        });
        Due.sentence(11, "who WEAR their OWN (4; bits). BAD.", () -> {
            for (int what = -3; what <= 12; what++) {
                Due.is("rings(" + what + ")", Due.alike(2).rings(what) == -2 ? 1 : 0, what < 0 || what > 4 ? 1 : 0);
            }
            Due.is("rings(MAX)", Due.alike(2).rings(Due.MAX), -2);
            Due.is("rings(MIN)", Due.alike(2).rings(Due.MIN), -2);
            Due.is("rings(5) of none", new SewnUp().rings(5), -2);
        });
        Due.sentence(12, "Who are in one's RING (bits). BAD.", () -> {
            SewnUp x = Due.alike(6);
            for (int g = 0; g < 6; g++) {
                Due.is("ring(" + g + ") alone", x.ring(g), 1 << g);
            }
            round(x, 0, 1, 2, 3, 4, 5);
            for (int g = 0; g < 6; g++) {
                Due.is("ring(" + g + ") of all", x.ring(g), 63);
            }
            x.change(0, 3);
            int[] half = {14, 49};
            Due.is("ring(1)", x.ring(1), half[0]);
            Due.is("ring(4)", x.ring(4), half[1]);
            for (int size = 0; size < 6; size++) {
                SewnUp y = Due.alike(size);
                Due.is("ring(" + size + ") of " + size, y.ring(size), -2);
                Due.is("ring(-1) of " + size, y.ring(-1), -2);
                Due.is("ring(MAX)", y.ring(Due.MAX), -2);
                Due.is("ring(MIN)", y.ring(Due.MIN), -2);
            }
            Due.is("ring(6)", x.ring(6), -2);
        });
    }

    private static void better() {
        Due.sentence(13, "by whose changing COATS WARM would be least behind n DAYS, if less than so, likewise; NONE.", () -> {
            SewnUp x = Due.ruled("heats 9*(coat=number);calms 0;feels 0;", Due.g(0, 0, 0), Due.g(0, 1, 0), Due.g(0, 2, 0));
            Due.is("of like ones the first", x.better(1, 0), 1);
            Due.is("WARM then", x.better(1, 1), 69);
            x.change(0, 1);
            Due.is("GROOM 2 with the first", x.better(1, 0), 2);
            Due.is("WARM then", x.better(1, 1), 60);
            x.change(0, 2);
            Due.is("none is less", x.better(1, 0), -1);
            Due.is("as so, if none", x.better(1, 1), 60);
        });
        Due.sentence(13, "CHANGE (what 0; NONE), WARM then (1; as so, if none). BAD.", () -> {
            Due.is("better(0, 0) of none", new SewnUp().better(0, 0), -1);
            Due.is("better(40, 1) of none", new SewnUp().better(40, 1), 0);
            Due.is("better(40, 0) of one", Due.alike(1).better(40, 0), -1);
            Due.is("better(0, 1) of one", Due.alike(1).better(0, 1), 20);
            SewnUp x = Due.alike(6);
            Due.is("all alike", x.better(40, 0), -1);
            Due.is("all alike", x.better(40, 1), 594);
            Due.is("better(41, 0)", x.better(41, 0), -2);
            Due.is("better(-1, 0)", x.better(-1, 0), -2);
            Due.is("better(MAX, 1)", x.better(Due.MAX, 1), -2);
            Due.is("better(MIN, 1)", x.better(Due.MIN, 1), -2);
            for (int what = -3; what <= 12; what++) {
                Due.is("better(1, " + what + ")", x.better(1, what) == -2 ? 1 : 0, what == 0 || what == 1 ? 0 : 1);
            }
        });
        Due.sentence(13, "WARM would be least behind n DAYS", () -> {
            SewnUp x = Due.ruled("heats 1+own*(day=39);calms 0;feels 0;", Due.g(0, 0, 0), Due.g(0, 0, 0));
            Due.is("39 DAYS: alike", x.better(39, 0), -1);
            Due.is("39 DAYS", x.better(39, 1), 118);
            Due.is("40 DAYS: less", x.better(40, 0), 1);
            Due.is("40 DAYS", x.better(40, 1), 120);
            Due.is("0 DAYS", x.better(0, 0), -1);
            Due.is("0 DAYS", x.better(0, 1), 40);
            SewnUp last = Due.ruled("heats 9*(number=9)*own;calms 0;feels 0;");
            Due.come(last, Due.g(0, 0, 0), Due.g(0, 0, 0), Due.g(0, 0, 0), Due.g(0, 0, 0), Due.g(0, 9, 0), Due.g(0, 9, 0));
            Due.is("the last two", last.better(1, 0), 45);
            Due.is("the last two", last.better(1, 1), 120);
        });
    }

    private static void best() {
        Due.sentence(14, "of all ways to wear all COATS that by which WARM would be least behind n DAYS; of like ones the first", () -> {
            SewnUp x = Due.ruled("heats not(coat+number=5);calms 0;feels 0;");
            Due.come(x, Due.g(0, 0, 0), Due.g(0, 1, 0), Due.g(0, 2, 0), Due.g(0, 3, 0), Due.g(0, 4, 0), Due.g(0, 5, 0));
            Due.is("best(0, 0): all alike, the first", x.best(0, 0), 123456);
            Due.is("best(0, 1)", x.best(0, 1), 120);
            Due.is("best(1, 0): the very last", x.best(1, 0), 654321);
            Due.is("best(1, 1)", x.best(1, 1), 120);
            Due.is("best(10, 0)", x.best(10, 0), 654321);
            Due.is("best(10, 1)", x.best(10, 1), 120);
            x.set(2, 0, 9);
            x.set(2, 5, 9);
            Due.is("of two like ones the first", x.best(1, 0), 154326);
            Due.is("of two like ones", x.best(1, 1), 122);
        });
        Due.sentence(14, "(digits: 1 more than whose COAT each WEARS, GROOM 0's the highest)", () -> {
            int[] digits = {0, 1, 12, 123, 1234, 12345, 123456};
            for (int size = 0; size <= 6; size++) {
                SewnUp x = Due.alike(size);
                Due.is("best(10, 0) of " + size, x.best(10, 0), digits[size]);
                Due.is("best(0, 1) of " + size, x.best(0, 1), 20 * size);
            }
            SewnUp x = Due.alike(6);
            round(x, 0, 5, 3);
            Due.is("however they WEAR them now", x.best(0, 0), 123456);
        });
        Due.sentence(14, "BEST COATS (what 0; 0: no GROOMS), WARM then (1). BAD.", () -> {
            Due.is("best(10, 0) of none", new SewnUp().best(10, 0), 0);
            Due.is("best(10, 1) of none", new SewnUp().best(10, 1), 0);
            SewnUp x = Due.alike(2);
            Due.is("best(11, 0)", x.best(11, 0), -2);
            Due.is("best(-1, 0)", x.best(-1, 0), -2);
            Due.is("best(MAX, 0)", x.best(Due.MAX, 0), -2);
            Due.is("best(MIN, 0)", x.best(Due.MIN, 0), -2);
            Due.is("best(40, 1)", x.best(40, 1), -2);
            for (int what = -3; what <= 12; what++) {
                Due.is("best(1, " + what + ")", x.best(1, what) == -2 ? 1 : 0, what == 0 || what == 1 ? 0 : 1);
            }
            Due.is("best(11, 0) of none", new SewnUp().best(11, 0), -2);
        });
        Due.sentence(14, "BEST COATS (n 0 .. 10)", () -> {
            SewnUp x = Due.ruled("heats own*(day=9);calms 0;feels 0;", Due.g(0, 0, 0), Due.g(0, 0, 0));
            Due.is("best(9, 0)", x.best(9, 0), 12);
            Due.is("best(10, 0)", x.best(10, 0), 21);
        });
    }

    private static void keys() {
        Due.sentence(15, "if t is 8 or more, and t modulo 8 is his NUMBER modulo 8", () -> {
            for (int t = 0; t <= 15; t++) {
                SewnUp x = Due.house(Due.g(0, 0, t), Due.g(0, 0, 0));
                for (int number = 0; number <= 9; number++) {
                    x.set(2, 1, number);
                    boolean opens = t >= 8 && t - 8 == (number >= 8 ? number - 8 : number);
                    Due.is("a THING " + t + ", a NUMBER " + number, x.from(0), opens ? 3 : 1);
                }
            }
        });
        Due.sentence(15, "itself, and, with what is in any of these, all others it OPENS", () -> {
            SewnUp x = Due.house(Due.g(0, 0, 9), Due.g(0, 1, 10), Due.g(0, 2, 11), Due.g(0, 3, 12), Due.g(0, 4, 13), Due.g(0, 5, 0));
            for (int g = 0; g < 6; g++) {
                Due.is("from(" + g + ") of a chain", x.from(g), 63 & ~((1 << g) - 1));
            }
            x.set(3, 5, 8);
            for (int g = 0; g < 6; g++) {
                Due.is("from(" + g + ") of a round", x.from(g), 63);
            }
            x.set(3, 2, 10);
            Due.is("from(2) opens but himself", x.from(2), 4);
            x.set(3, 2, 7);
            Due.is("from(1)", x.from(1), 6);
        });
        Due.sentence(15, "all others it OPENS", () -> {
            SewnUp x = Due.house(Due.g(0, 7, 15), Due.g(0, 8, 8), Due.g(0, 0, 9), Due.g(0, 9, 0), Due.g(0, 1, 0), Due.g(0, 2, 14));
            Due.is("15 opens NUMBER 7, his own", x.from(0), 1);
            Due.is("8 opens NUMBERS 0 and 8, 9 opens 1 and 9", x.from(1), 30);
            Due.is("from(2)", x.from(2), 28);
            Due.is("14 opens none", x.from(5), 32);
        });
        Due.sentence(15, "were that of his OWN COAT", () -> {
            SewnUp x = Due.house(Due.g(0, 5, 14), Due.g(0, 6, 0), Due.g(0, 4, 0));
            x.change(0, 2);
            Due.is("from(0)", x.from(0), 3);
            Due.is("from(2), who WEARS that of 0", x.from(2), 4);
        });
        Due.sentence(15, "FROM one. BAD.", () -> {
            for (int size = 0; size <= 6; size++) {
                SewnUp x = Due.alike(size);
                for (int one = -2; one < 9; one++) {
                    Due.is("from(" + one + ") of " + size, x.from(one), one < 0 || one >= size ? -2 : 1 << one);
                }
                Due.is("from(MAX)", x.from(Due.MAX), -2);
                Due.is("from(MIN)", x.from(Due.MIN), -2);
            }
        });
        Due.sentence(16, "KEY: the GROOM FROM whom most are; of like ones the first.", () -> {
            SewnUp x = Due.house(Due.g(0, 1, 0), Due.g(0, 2, 0), Due.g(0, 3, 0), Due.g(0, 4, 0), Due.g(0, 5, 0), Due.g(0, 6, 0));
            Due.is("all like: the first", x.keys(0), 0);
            Due.is("how many", x.keys(1), 1);
            x.set(3, 5, 9);
            Due.is("the last", x.keys(0), 5);
            Due.is("how many", x.keys(1), 2);
            x.set(3, 3, 11);
            Due.is("of 3 and 5", x.keys(0), 3);
            x.set(3, 0, 14);
            Due.is("a round of 0 and 5: 0", x.keys(0), 0);
            Due.is("how many", x.keys(1), 2);
        });
        Due.sentence(16, "SETS: the fewest GROOMS (bits; of like ones the least as bits) FROM whom, together, all are.", () -> {
            SewnUp x = Due.alike(6);
            Due.is("each but himself: all", x.keys(2), 63);
            Due.is("how many", x.keys(3), 6);
            x = Due.house(Due.g(0, 0, 9), Due.g(0, 1, 8), Due.g(0, 2, 11), Due.g(0, 3, 10), Due.g(0, 4, 0), Due.g(0, 5, 12));
            Due.is("of two rounds the lesser ones, and 5", x.keys(2), 37);
            Due.is("how many", x.keys(3), 3);
            x.set(3, 5, 8);
            Due.is("5 opens 0, 4 none", x.keys(2), 52);
            Due.is("how many", x.keys(3), 3);
            x = Due.house(Due.g(0, 0, 9), Due.g(0, 1, 10), Due.g(0, 2, 11), Due.g(0, 3, 12), Due.g(0, 4, 13), Due.g(0, 5, 8));
            Due.is("a round of all: the first alone", x.keys(2), 1);
            Due.is("how many", x.keys(3), 1);
        });
        Due.sentence(16, "KEY (what 0; NONE: no GROOMS), how many (1; 0), SETS (2; bits), how many (3). BAD.", () -> {
            int[] none = {-1, 0, 0, 0};
            int[] one = {0, 1, 1, 1};
            for (int what = 0; what < 4; what++) {
                Due.is("keys(" + what + ") of none", new SewnUp().keys(what), none[what]);
                Due.is("keys(" + what + ") of one", Due.alike(1).keys(what), one[what]);
            }
            for (int what = -3; what <= 12; what++) {
                int isBad = what < 0 || what > 3 ? 1 : 0;
                Due.is("keys(" + what + ")", Due.alike(3).keys(what) == -2 ? 1 : 0, isBad);
                Due.is("keys(" + what + ") of none", new SewnUp().keys(what) == -2 ? 1 : 0, isBad);
            }
            Due.is("keys(MAX)", Due.alike(3).keys(Due.MAX), -2);
            Due.is("keys(MIN)", Due.alike(3).keys(Due.MIN), -2);
        });
    }

    public static void main(String[] args) {
        aDay();
        days();
        ringsAndChanges();
        better();
        best();
        keys();
        Due.end();
    }
}
