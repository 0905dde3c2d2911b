// Terms 1, sentence by sentence: what numbers there are, and what HEATS, CALMS, FEELS of each KIND are at their bounds.
public final class KindsTest {
    private static final int GROOM = 0, SAILOR = 1, CLERK = 2, DROWNED = 3, SEXTON = 4, BOY = 5;

    private static void heats(int kind, int number, int day, String v, int want) {
        SewnUp x = Due.ruled("heats " + v + ";calms 0;feels 0;", Due.g(kind, number, 0));
        x.set(0, 0, day);
        Due.is("HEATS of KIND " + kind + ", NUMBER " + number + ", DAY " + day + ", telling " + v, x.told(0, 8), want);
    }

    private static void calms(int kind, int number, int thing, String v, int want) {
        SewnUp x = Due.ruled("heats 0;calms " + v + ";feels 0;", Due.g(kind, number, thing));
        Due.is("CALMS of KIND " + kind + ", NUMBER " + number + ", a THING " + thing + ", telling " + v,
            x.told(0, 9), want);
    }

    private static void feels(int kind, String v, int want) {
        SewnUp x = Due.ruled("heats 0;calms 0;feels " + v + ";", Due.g(kind, 9, 15));
        Due.is("FEELS of KIND " + kind + " telling " + v, x.told(0, 10), want);
    }

    private static void numbers() {
        Due.sentence(2, "DAY (0 .. 999; 0 at first)", () -> {
            SewnUp x = new SewnUp();
            Due.is("told(0, 0)", x.told(0, 0), 0);
            Due.is("set(0, 0, 999)", x.set(0, 0, 999), 0);
            Due.is("set(0, 0, 1000)", x.set(0, 0, 1000), -2);
            Due.is("set(0, 0, 0)", x.set(0, 0, 0), 999);
            Due.is("set(0, 0, -1)", x.set(0, 0, -1), -2);
            Due.is("told(0, 0)", x.told(0, 0), 0);
        });
        Due.sentence(2, "LIMIT (0 .. 99; 60 at first)", () -> {
            SewnUp x = new SewnUp();
            Due.is("told(0, 1)", x.told(0, 1), 60);
            Due.is("set(1, 0, 99)", x.set(1, 0, 99), 60);
            Due.is("set(1, 0, 100)", x.set(1, 0, 100), -2);
            Due.is("set(1, 0, 0)", x.set(1, 0, 0), 99);
            Due.is("set(1, 0, -1)", x.set(1, 0, -1), -2);
            Due.is("told(0, 1)", x.told(0, 1), 0);
        });
        Due.sentence(3, "GROOMS (6 at most, numbered from 0)", () -> {
            SewnUp x = new SewnUp();
            for (int i = 0; i < 6; i++) {
                Due.is("GROOM " + i, x.groom(0, 0, 0), i);
                Due.is("count(0)", x.count(0), i + 1);
                Due.is("told(" + i + ", 5)", x.told(i, 5), 0);
                Due.is("told(" + (i + 1) + ", 5)", x.told(i + 1, 5), -2);
            }
            Due.is("a seventh", x.groom(0, 0, 0), -4);
            Due.is("count(0)", x.count(0), 6);
            Due.is("told(-1, 5)", x.told(-1, 5), -2);
        });
        Due.sentence(3, "a NUMBER (0 .. 9), a THING (0 .. 15) in the pocket of their OWN COAT", () -> {
            SewnUp x = Due.house(Due.g(0, 0, 15), Due.g(0, 9, 0));
            Due.is("NUMBER 10", x.groom(0, 10, 0), -2);
            Due.is("NUMBER -1", x.groom(0, -1, 0), -2);
            Due.is("THING 16", x.groom(0, 0, 16), -2);
            Due.is("THING -1", x.groom(0, 0, -1), -2);
            x.change(0, 1);
            int[][] told = {{0, 15}, {9, 0}};
            for (int g = 0; g < 2; g++) {
                Due.is("NUMBER", x.told(g, 2), told[g][0]);
                Due.is("THING of his OWN", x.told(g, 3), told[g][1]);
            }
        });
        Due.sentence(2, "a TEMPER (0 .. 99; 20 as one comes)", () -> {
            SewnUp x = Due.alike(1);
            Due.is("set(4, 0, 99)", x.set(4, 0, 99), 20);
            Due.is("set(4, 0, 100)", x.set(4, 0, 100), -2);
            Due.is("set(4, 0, 0)", x.set(4, 0, 0), 99);
            Due.is("set(4, 0, -1)", x.set(4, 0, -1), -2);
            Due.is("told(0, 4)", x.told(0, 4), 0);
        });
        Due.sentence(0, "NONE is -1; NO, where a long is answered, -4611686018427387904", () -> {
            Due.is("NONE", SewnUp.NONE, -1);
            Due.is("NO", SewnUp.NO, -4611686018427387904L);
            Due.is("rings(3)", new SewnUp().rings(3), -1);
            Due.is("chance(0, 0, 0)", new SewnUp().chance(0, 0, 0), -4611686018427387904L);
        });
        Due.sentence(0, "BAD (-2: a number is none such or not as told), STATE (-3), FULL (-4)", () -> {
            Due.is("BAD", SewnUp.BAD, -2);
            Due.is("STATE", SewnUp.STATE, -3);
            Due.is("FULL", SewnUp.FULL, -4);
        });
    }

    private static void coats() {
        Due.sentence(3, "each WEARS the COAT of one of them (his OWN, as one comes)", () -> {
            SewnUp x = new SewnUp();
            for (int g = 0; g < 6; g++) {
                x.groom(0, 0, 0);
                Due.is("told(" + g + ", 6)", x.told(g, 6), g);
                if (g > 0) {
                    x.change(g - 1, g);
                }
            }
            for (int g = 0; g < 5; g++) {
                Due.is("told(" + g + ", 6)", x.told(g, 6), g + 1);
            }
            Due.is("told(5, 6)", x.told(5, 6), 0);
        });
        Due.sentence(4, "each WEARS the COAT of one of them (his OWN, as one comes), no two the same", () -> {
            SewnUp x = Due.alike(6);
            for (int k = 0; k < 40; k++) {
                x.change(k % 6, (k * k + 1) % 6);
                int worn = 0;
                for (int g = 0; g < 6; g++) {
                    worn |= 1 << x.told(g, 6);
                }
                Due.is("the COATS of all behind change " + k, worn, 63);
            }
        });
        Due.sentence(5, "HAS: the THING of the COAT he WEARS.", () -> {
            SewnUp x = Due.house(Due.g(0, 0, 0), Due.g(0, 0, 15), Due.g(0, 0, 7));
            x.change(0, 1);
            x.change(1, 2);
            int[] has = {15, 7, 0};
            int[] own = {0, 15, 7};
            for (int g = 0; g < 3; g++) {
                Due.is("told(" + g + ", 7)", x.told(g, 7), has[g]);
                Due.is("told(" + g + ", 3)", x.told(g, 3), own[g]);
            }
            x.set(3, 1, 4);
            Due.is("told(0, 7) by another THING", x.told(0, 7), 4);
        });
    }

    private static void heatsOfKinds() {
        Due.sentence(5, "HEATS (heats telling v): GROOM: v;", () -> {
            heats(GROOM, 9, 1, "0", 0);
            heats(GROOM, 9, 1, "99", 99);
        });
        Due.sentence(5, "SAILOR: 3 more than a GROOM;", () -> {
            heats(SAILOR, 9, 1, "0", 3);
            heats(SAILOR, 0, 0, "95", 98);
            heats(SAILOR, 0, 0, "96", 99);
            heats(SAILOR, 0, 0, "97", 99);
            heats(SAILOR, 0, 0, "99", 99);
        });
        Due.sentence(5, "CLERK: half (cut) of a GROOM's;", () -> {
            heats(CLERK, 9, 1, "0", 0);
            heats(CLERK, 9, 1, "1", 0);
            heats(CLERK, 9, 1, "2", 1);
            heats(CLERK, 9, 1, "98", 49);
            heats(CLERK, 9, 1, "99", 49);
        });
        Due.sentence(5, "DROWNED: 0, if DAY modulo 4 is 1, else as a SAILOR;", () -> {
            int[] days = {0, 1, 2, 3, 4, 5, 996, 997, 998, 999};
            int[] want = {53, 0, 53, 53, 53, 0, 53, 0, 53, 53};
            for (int i = 0; i < days.length; i++) {
                heats(DROWNED, 9, days[i], "50", want[i]);
            }
            heats(DROWNED, 0, 0, "0", 3);
            heats(DROWNED, 0, 0, "96", 99);
            heats(DROWNED, 0, 0, "97", 99);
        });
        Due.sentence(5, "SEXTON: NUMBER less than a CLERK;", () -> {
            heats(SEXTON, 0, 1, "21", 10);
            heats(SEXTON, 9, 1, "21", 1);
            heats(SEXTON, 9, 1, "19", 0);
            heats(SEXTON, 9, 1, "18", 0);
            heats(SEXTON, 9, 1, "17", 0);
            heats(SEXTON, 9, 1, "0", 0);
            heats(SEXTON, 9, 1, "99", 40);
        });
        Due.sentence(5, "BOY: twice a GROOM's.", () -> {
            heats(BOY, 9, 1, "0", 0);
            heats(BOY, 9, 1, "1", 2);
            heats(BOY, 9, 1, "49", 98);
            heats(BOY, 9, 1, "50", 99);
            heats(BOY, 9, 1, "99", 99);
        });
    }

    private static void calmsOfKinds() {
        Due.sentence(5, "CALMS (calms telling v; a THING t): GROOM: v;", () -> {
            calms(GROOM, 9, 13, "0", 0);
            calms(GROOM, 9, 7, "99", 99);
        });
        Due.sentence(5, "SAILOR: v, if t is even, else half (cut) of v;", () -> {
            calms(SAILOR, 9, 0, "99", 99);
            calms(SAILOR, 9, 1, "99", 49);
            calms(SAILOR, 9, 14, "7", 7);
            calms(SAILOR, 9, 15, "7", 3);
            calms(SAILOR, 9, 13, "1", 0);
            calms(SAILOR, 9, 12, "0", 0);
        });
        Due.sentence(5, "CLERK: 2 more than a GROOM;", () -> {
            calms(CLERK, 9, 7, "0", 2);
            calms(CLERK, 9, 13, "96", 98);
            calms(CLERK, 9, 0, "97", 99);
            calms(CLERK, 9, 0, "98", 99);
            calms(CLERK, 9, 0, "99", 99);
        });
        Due.sentence(5, "DROWNED: NUMBER more than a SAILOR;", () -> {
            calms(DROWNED, 0, 0, "0", 0);
            calms(DROWNED, 9, 0, "0", 9);
            calms(DROWNED, 9, 2, "89", 98);
            calms(DROWNED, 9, 2, "90", 99);
            calms(DROWNED, 9, 2, "91", 99);
            calms(DROWNED, 9, 3, "91", 54);
            calms(DROWNED, 9, 15, "1", 9);
        });
        Due.sentence(5, "SEXTON: as a CLERK, but 0, if t is 7 or 13;", () -> {
            for (int t = 0; t <= 15; t++) {
                calms(SEXTON, 9, t, "5", t == 7 || t == 13 ? 0 : 7);
            }
            calms(SEXTON, 0, 0, "0", 2);
            calms(SEXTON, 0, 0, "98", 99);
            calms(SEXTON, 0, 7, "98", 0);
        });
        Due.sentence(5, "BOY: t.", () -> {
            for (int t = 0; t <= 15; t++) {
                calms(BOY, 9, t, t % 2 == 0 ? "0" : "99", t);
            }
        });
        Due.sentence(5, "CALMS (calms telling v; a THING t)", () -> {
            SewnUp x = Due.ruled("heats 0;calms 50;feels 0;", Due.g(BOY, 0, 7), Due.g(SEXTON, 0, 4));
            Due.is("CALMS by his OWN", x.told(0, 9), 7);
            Due.is("CALMS by his OWN", x.told(1, 9), 52);
            x.change(0, 1);
            Due.is("CALMS by what he HAS", x.told(0, 9), 4);
            Due.is("CALMS by what he HAS", x.told(1, 9), 0);
        });
    }

    private static void feelsOfKinds() {
        Due.sentence(5, "FEELS (feels telling v): GROOM: v;", () -> {
            feels(GROOM, "0", 0);
            feels(GROOM, "99", 99);
        });
        Due.sentence(5, "SAILOR: as a GROOM;", () -> {
            feels(SAILOR, "0", 0);
            feels(SAILOR, "99", 99);
        });
        Due.sentence(5, "CLERK: v modulo 10;", () -> {
            feels(CLERK, "0", 0);
            feels(CLERK, "9", 9);
            feels(CLERK, "10", 0);
            feels(CLERK, "19", 9);
            feels(CLERK, "90", 0);
            feels(CLERK, "99", 9);
        });
        Due.sentence(5, "DROWNED: twice a SAILOR's;", () -> {
            feels(DROWNED, "0", 0);
            feels(DROWNED, "49", 98);
            feels(DROWNED, "50", 99);
            feels(DROWNED, "99", 99);
        });
        Due.sentence(5, "SEXTON: 1 more than a CLERK;", () -> {
            feels(SEXTON, "0", 1);
            feels(SEXTON, "9", 10);
            feels(SEXTON, "10", 1);
            feels(SEXTON, "99", 10);
        });
        Due.sentence(5, "BOY: 0, if v is below 5, else as a GROOM.", () -> {
            feels(BOY, "0", 0);
            feels(BOY, "4", 0);
            feels(BOY, "5", 5);
            feels(BOY, "99", 99);
        });
    }

    private static void bounds() {
        Due.sentence(5, "heats, calms, feels (0 .. 99, else the bound).", () -> {
            String[] tell = {"-9999", "-1", "0", "99", "100", "9999"};
            int[] v = {0, 0, 0, 99, 99, 99};
            for (int i = 0; i < tell.length; i++) {
                heats(GROOM, 0, 0, tell[i], v[i]);
                calms(GROOM, 0, 0, tell[i], v[i]);
                feels(GROOM, tell[i], v[i]);
            }
        });
        Due.sentence(5, "heats, calms, feels (0 .. 99, else the bound).", () -> {
            heats(SAILOR, 0, 0, "-10", 3);
            heats(CLERK, 0, 0, "120", 49);
            heats(SEXTON, 9, 0, "-50", 0);
            heats(SEXTON, 9, 0, "200", 40);
            heats(BOY, 0, 0, "-1", 0);
            calms(SAILOR, 0, 1, "150", 49);
            calms(CLERK, 0, 0, "-5", 2);
            calms(DROWNED, 3, 0, "-5", 3);
            feels(CLERK, "105", 9);
            feels(CLERK, "-3", 0);
            feels(SEXTON, "-3", 1);
            feels(DROWNED, "-3", 0);
        });
        Due.sentence(5, "(HEATS, CALMS, FEELS 0 .. 99, else the bound.)", () -> {
            for (int kind = 0; kind < 6; kind++) {
                String[] tell = {"0", "99"};
                for (String v : tell) {
                    SewnUp x = Due.ruled("heats " + v + ";calms " + v + ";feels " + v + ";", Due.g(kind, 9, 2));
                    for (int what = 8; what <= 10; what++) {
                        int told = x.told(0, what);
                        Due.is("told(0, " + what + ") of KIND " + kind, Due.bound(told), told);
                    }
                }
            }
        });
    }

    private static void theRule() {
        Due.sentence(5, "TEXT 0, at first THE RULE, is: heats 7 ; calms thing ; feels thing * 3 ;", () -> {
            SewnUp x = Due.alike(2);
            x.change(0, 1);
            Due.is("count(5)", x.count(5), 0);
            for (int t = 0; t <= 15; t++) {
                x.set(3, 1, t);
                Due.is("HEATS", x.told(0, 8), 7);
                Due.is("CALMS", x.told(0, 9), t);
                Due.is("FEELS", x.told(0, 10), 3 * t);
            }
        });
        Due.sentence(5, "thing: what he HAS; temper: TEMPER (of feels 0); number: NUMBER; day: DAY (of feels 0);", () -> {
            names("thing", 0, 15, 15);
            names("temper", 0, 99, 0);
            names("number", 0, 9, 9);
            names("day", 0, 99, 0);
        });
        Due.sentence(5, "day: DAY (of feels 0);", () -> {
            SewnUp x = Due.ruled("heats (day=999)*9;calms (day=999)*8;feels (day=999)*7+(day=0)*6;", Due.g(0, 0, 0));
            x.set(0, 0, 999);
            Due.is("HEATS", x.told(0, 8), 9);
            Due.is("CALMS", x.told(0, 9), 8);
            Due.is("FEELS", x.told(0, 10), 6);
        });
        Due.sentence(5, "coat: whose COAT he WEARS (of feels 0);", () -> {
            SewnUp x = Due.ruled("heats coat;calms coat;feels coat;");
            Due.come(x, Due.g(0, 0, 0), Due.g(0, 0, 0), Due.g(0, 0, 0), Due.g(0, 0, 0), Due.g(0, 0, 0), Due.g(0, 0, 0));
            x.change(0, 5);
            int[] coat = {5, 1, 2, 3, 4, 0};
            for (int g = 0; g < 6; g++) {
                Due.is("HEATS of " + g, x.told(g, 8), coat[g]);
                Due.is("CALMS of " + g, x.told(g, 9), coat[g]);
                Due.is("FEELS of " + g, x.told(g, 10), 0);
            }
        });
        Due.sentence(5, "own: 1, if it is his OWN, else 0 (of feels 0).", () -> {
            SewnUp x = Due.ruled("heats own;calms own;feels own;", Due.g(0, 0, 0), Due.g(0, 0, 0), Due.g(0, 0, 0));
            x.change(0, 2);
            int[] own = {0, 1, 0};
            for (int g = 0; g < 3; g++) {
                Due.is("HEATS of " + g, x.told(g, 8), own[g]);
                Due.is("CALMS of " + g, x.told(g, 9), own[g]);
                Due.is("FEELS of " + g, x.told(g, 10), 0);
            }
        });
    }

    /** What a name tells at both bounds of its number, and what feels is told of the higher one. */
    private static void names(String name, int low, int high, int felt) {
        SewnUp x = Due.ruled("heats " + name + ";calms " + name + ";feels " + name + ";", Due.g(0, 5, 5), Due.g(0, 5, 5));
        x.change(0, 1);
        int what = name.equals("thing") ? 3 : name.equals("temper") ? 4 : name.equals("number") ? 2 : 0;
        int[] both = {low, high};
        for (int v : both) {
            x.set(what, what == 3 ? 1 : 0, v);
            Due.is("HEATS by " + name, x.told(0, 8), v);
            Due.is("CALMS by " + name, x.told(0, 9), v);
        }
        Due.is("FEELS by " + name, x.told(0, 10), felt);
    }

    public static void main(String[] args) {
        numbers();
        coats();
        heatsOfKinds();
        calmsOfKinds();
        feelsOfKinds();
        bounds();
        theRule();
        Due.end();
    }
}
