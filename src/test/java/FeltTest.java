import java.math.BigInteger;

// Terms 2 and promises 17 to 23, sentence by sentence: what was felt, what is drawn, the image, the counts.
public final class FeltTest {
    private static final BigInteger ROUND = BigInteger.ONE.shiftLeft(32);

    /** What is drawn by a SEED, reckoned without ints. */
    private static int[] draw(long seed, int many) {
        int[] things = new int[many];
        BigInteger z = BigInteger.valueOf(seed);
        for (int i = 0; i < many; i++) {
            z = z.multiply(BigInteger.valueOf(1103515245)).add(BigInteger.valueOf(12345)).mod(ROUND);
            things[i] = z.divide(BigInteger.valueOf(512)).mod(BigInteger.valueOf(16)).intValue();
        }
        return things;
    }

    /** Whether from one of these all could be opened, tried out. */
    private static boolean isOpened(int[] things, int[] numbers) {
        int all = (1 << things.length) - 1;
        for (int first = 0; first < things.length; first++) {
            int open = 1 << first;
            for (int k = 0; k < things.length * things.length; k++) {
                int a = k % things.length;
                for (int b = 0; b < things.length; b++) {
                    boolean opens = things[a] > 7 && things[a] % 8 == numbers[b] % 8;
                    open |= (open >> a & 1) == 1 && opens ? 1 << b : 0;
                }
            }
            if (open == all) {
                return true;
            }
        }
        return false;
    }

    private static void tells(SewnUp x, int sheet, int what, int want) {
        Due.is("tells(" + sheet + ", " + what + ")", x.tells(sheet, what), want);
    }

    private static SewnUp six(String letters) {
        SewnUp x = letters.isEmpty() ? new SewnUp() : Due.ruled(letters);
        for (int g = 0; g < 6; g++) {
            x.groom(0, g, g);
        }
        return x;
    }

    private static void whoAndWays() {
        Due.sentence(17, "a SHEET tells what is FELT (FEELS) of each GROOM: who isn't so (bits)", () -> {
            SewnUp x = six("");
            Due.row(x, 0, 0, 0, 3, 6, 9, 12, 15);
            tells(x, 0, 0, 0);
            Due.row(x, 1, 1, 1, 4, 7, 10, 13, 16);
            tells(x, 1, 0, 63);
            for (int g = 0; g < 6; g++) {
                x.cell(1, g, 3 * g);
                tells(x, 1, 0, 63 & ~((2 << g) - 1));
            }
            x.change(0, 5);
            tells(x, 0, 0, 33);
            x.cell(0, 0, 256 + 15);
            x.cell(0, 5, -256);
            tells(x, 0, 0, 0);
            x.cell(0, 1, -253);
            tells(x, 0, 0, 0);
            x.cell(0, 1, -3);
            tells(x, 0, 0, 2);
        });
        Due.sentence(17, "WAYS: by how many ways to wear all COATS nobody would be otherwise; the first of them (as BEST COATS; 0: none)", () -> {
            SewnUp x = six("heats 0;calms 0;feels 5;");
            x.film(0);
            round(x, 0, 5, 2);
            tells(x, 0, 1, 720);
            tells(x, 0, 2, 123456);
            tells(x, 0, 3, 0);
            x.cell(0, 5, 6);
            tells(x, 0, 1, 0);
            tells(x, 0, 2, 0);
            tells(x, 0, 3, 0);
            SewnUp y = six("");
            Due.row(y, 3, 2, 15, 12, 9, 6, 3, 0);
            tells(y, 3, 1, 1);
            tells(y, 3, 2, 654321);
            tells(y, 3, 3, 63);
            y.set(3, 0, 1);
            tells(y, 3, 1, 0);
            y.cell(3, 5, 3);
            tells(y, 3, 1, 2);
            tells(y, 3, 2, 654312);
            tells(y, 3, 3, 15);
        });
        Due.sentence(17, "SURE: who WEARS one and the same COAT by all these (bits; 0: none)", () -> {
            SewnUp x = Due.house(Due.g(0, 0, 4), Due.g(0, 0, 4), Due.g(0, 0, 9));
            Due.row(x, 0, 0, 12, 27, 12);
            tells(x, 0, 1, 2);
            tells(x, 0, 2, 132);
            tells(x, 0, 3, 2);
            Due.row(x, 0, 0, 12, 12, 27);
            tells(x, 0, 2, 123);
            tells(x, 0, 3, 4);
            Due.row(x, 0, 0, 27, 27, 12);
            tells(x, 0, 1, 0);
            tells(x, 0, 3, 0);
            x.set(3, 2, 4);
            Due.row(x, 0, 0, 12, 12, 12);
            tells(x, 0, 1, 6);
            tells(x, 0, 3, 0);
        });
        Due.sentence(17, "TOLD: who isn't so (what 0), WAYS (1), the first of them (2; 0), SURE (3), TEXTS (4)", () -> {
            SewnUp none = new SewnUp();
            none.film(0);
            int[] want = {0, 1, 0, 0, 1};
            for (int what = 0; what < 5; what++) {
                tells(none, 0, what, want[what]);
            }
            SewnUp one = Due.alike(1);
            one.film(2);
            int[] alone = {0, 1, 1, 1, 1};
            for (int what = 0; what < 5; what++) {
                tells(one, 2, what, alone[what]);
            }
        });
    }

    private static void round(SewnUp x, int... ring) {
        for (int i = 0; i + 1 < ring.length; i++) {
            x.change(ring[i], ring[i + 1]);
        }
    }

    private static void whatWouldBe() {
        Due.sentence(17, "KINDS (bits 0 .. 5)", () -> {
            SewnUp x = Due.ruled("heats 0;calms 0;feels 4;", Due.g(0, 0, 0), Due.g(5, 9, 15));
            Due.row(x, 0, 2, 4, 0);
            int[] felt = {4, 8, 5, 0, 1, -4};
            int[] kinds = {7, 8, 16, 32, 0, 0};
            for (int i = 0; i < felt.length; i++) {
                x.cell(0, 0, felt[i]);
                tells(x, 0, 10, kinds[i]);
            }
            tells(x, 0, 11, 0);
            x.cell(0, 0, 4);
            tells(x, 0, 11, 32);
            Due.is("KIND stays", x.told(0, 5), 0);
            SewnUp y = Due.ruled("heats 0;calms 0;feels 9;", Due.g(0, 0, 0));
            Due.row(y, 0, 0, 9);
            tells(y, 0, 10, 1 | 2 | 4 | 32);
        });
        Due.sentence(17, "NUMBERS (bits 0 .. 9) of one", () -> {
            SewnUp x = Due.ruled("heats 0;calms 0;feels number;", Due.g(0, 3, 0), Due.g(0, 4, 0));
            Due.row(x, 0, 2, 0, 4);
            int[] felt = {0, 1, 9, 10, -1};
            int[] numbers = {1, 2, 512, 0, 0};
            for (int i = 0; i < felt.length; i++) {
                x.cell(0, 0, felt[i]);
                tells(x, 0, 20, numbers[i]);
            }
            x.cell(0, 0, 3);
            tells(x, 0, 21, 16);
            x.force(0);
            Due.row(x, 0, 0, 0, 0);
            tells(x, 0, 20, 1023);
            Due.is("NUMBER stays", x.told(0, 2), 3);
        });
        Due.sentence(17, "THINGS (bits 0 .. 15) in his OWN COAT", () -> {
            SewnUp x = Due.ruled("heats 0;calms 0;feels thing;", Due.g(0, 0, 3), Due.g(2, 0, 5));
            Due.row(x, 0, 2, 0, 5);
            int[] felt = {0, 1, 15, 16, -1};
            int[] things = {1, 2, 32768, 0, 0};
            for (int i = 0; i < felt.length; i++) {
                x.cell(0, 0, felt[i]);
                tells(x, 0, 30, things[i]);
            }
            x.change(0, 1);
            Due.row(x, 0, 2, 5, 3);
            tells(x, 0, 30, 8 | 1 << 13);
            tells(x, 0, 31, 32);
            x.cell(0, 1, 9);
            tells(x, 0, 30, 512);
            tells(x, 0, 31, 0);
            Due.is("THING stays", x.told(0, 3), 3);
            SewnUp y = Due.ruled("heats 0;calms 0;feels 0;", Due.g(0, 0, 3));
            y.film(0);
            tells(y, 0, 30, 65535);
        });
        Due.sentence(17, "TEXTS (bits), were they THE RULE, by which nobody would be otherwise.", () -> {
            SewnUp x = new SewnUp();
            for (int i = 1; i < 6; i++) {
                Due.feed(x, "heats 0;calms 0;feels " + i + ";");
                x.text();
            }
            x.groom(0, 0, 0);
            x.sheet(0, 0, 1);
            for (int i = 0; i < 6; i++) {
                x.cell(0, 0, i);
                tells(x, 0, 4, 1 << i);
            }
            x.cell(0, 0, 6);
            tells(x, 0, 4, 0);
            Due.is("THE RULE stays", x.count(5), 0);
            x.groom(0, 0, 1);
            Due.row(x, 0, 0, 3, 3);
            tells(x, 0, 4, 8);
            x.force(3);
            tells(x, 0, 0, 0);
            tells(x, 0, 4, 8);
            x = new SewnUp();
            for (int i = 1; i < 6; i++) {
                Due.feed(x, Due.RULE);
                x.text();
            }
            x.groom(0, 0, 1);
            x.film(0);
            tells(x, 0, 4, 63);
        });
        Due.sentence(17, "by which nobody would be otherwise", () -> {
            SewnUp x = six("");
            x.film(0);
            for (int g = 0; g < 6; g++) {
                tells(x, 0, 20 + g, 1023);
                tells(x, 0, 30 + g, 1 << g);
            }
            x.cell(0, 5, 18);
            for (int g = 0; g < 6; g++) {
                tells(x, 0, 10 + g, 0);
                tells(x, 0, 20 + g, 0);
                tells(x, 0, 30 + g, g == 5 ? 64 : 0);
            }
        });
    }

    private static void tellsRefused() {
        Due.sentence(17, "KINDS of GROOM what modulo 10 (10 ..), NUMBERS (20 ..), THINGS (30 ..). BAD: SHEET, what, no such GROOM", () -> {
            for (int size = 0; size <= 6; size++) {
                SewnUp x = Due.alike(size);
                x.film(1);
                for (int what = -3; what <= 52; what++) {
                    boolean isSo = what >= 0 && what <= 4 || what >= 10 && what < 40 && what % 10 < size;
                    Due.is("tells(1, " + what + ") of " + size, x.tells(1, what) < 0 ? 0 : 1, isSo ? 1 : 0);
                    Due.is("tells(0, " + what + ") of " + size, x.tells(0, what), isSo ? -11 : -2);
                }
                Due.is("tells(1, MAX)", x.tells(1, Due.MAX), -2);
                Due.is("tells(1, MIN)", x.tells(1, Due.MIN), -2);
            }
        });
        Due.sentence(17, "BAD: its size isn't how many GROOMS there are.", () -> {
            for (int size = 0; size <= 6; size++) {
                SewnUp x = Due.alike(size);
                int[] whats = {0, 1, 2, 3, 4, 10, 20, 30};
                for (int what : whats) {
                    boolean isSo = what < 10 || size > 0;
                    x.sheet(0, 0, size + 1);
                    Due.is("one too long", x.tells(0, what), -2);
                    x.sheet(0, 0, Math.max(0, size - 1));
                    Due.is("one too short", x.tells(0, what) == -2 ? 1 : 0, size > 0 || !isSo ? 1 : 0);
                    x.sheet(0, 2, size);
                    Due.is("as long", x.tells(0, what) < 0 ? 1 : 0, isSo ? 0 : 1);
                }
                x.sheet(0, 0, 40);
                Due.is("far too long", x.tells(0, 0), -2);
            }
        });
        Due.sentence(17, "BAD: SHEET, what, no such GROOM; -11;", () -> {
            SewnUp x = Due.alike(2);
            for (int s = 0; s < 4; s++) {
                Due.is("missing", x.tells(s, 0), -11);
                Due.is("missing", x.tells(s, 31), -11);
                x.film(s);
                Due.is("not missing", x.tells(s, 0), 0);
            }
            int[] sheets = {-1, 4, Due.MAX, Due.MIN};
            for (int s : sheets) {
                Due.is("tells(" + s + ", 0)", x.tells(s, 0), -2);
                Due.is("tells(" + s + ", 10)", x.tells(s, 10), -2);
                Due.is("film(" + s + ")", x.film(s), -2);
            }
        });
    }

    private static void film() {
        Due.sentence(18, "A SHEET truly becomes what is FELT of each GROOM (bytes): how many. BAD.", () -> {
            for (int size = 0; size <= 6; size++) {
                SewnUp x = new SewnUp();
                for (int g = 0; g < size; g++) {
                    x.groom(g, 3, 15 - g);
                }
                for (int s = 0; s < 4; s++) {
                    x.sheet(s, s - 1, 40);
                    Due.is("film(" + s + ") of " + size, x.film(s), size);
                    Due.is("its size", x.cell(s, size, 0), -12);
                    Due.is("tells", x.tells(s, 0), 0);
                    Due.is("bytes", x.grooms(s, 0, 0, 0), 0);
                    Due.is("no shorts", x.grooms(s, 1, 0, 0), -13);
                }
            }
        });
        Due.sentence(18, "what is FELT of each GROOM (bytes)", () -> {
            SewnUp x = Due.ruled("heats 0;calms 0;feels 99;", Due.g(0, 0, 0), Due.g(2, 0, 0), Due.g(5, 0, 0));
            x.film(0);
            Due.row(x, 1, 2, 99, 9, 99);
            tells(x, 0, 0, 0);
            tells(x, 1, 0, 0);
            x.force(0);
            tells(x, 0, 0, 7);
            x.force(1);
            x.cell(0, 0, 98);
            tells(x, 0, 0, 1);
            Due.is("film(0) anew", x.film(0), 3);
            tells(x, 0, 0, 0);
        });
    }

    private static void drawn() {
        Due.sentence(19, "would be (z >>> 9) % 16, z being z * 1103515245 + 12345 (an int; SEED at first) anew for each", () -> {
            int[] seeds = {0, 1, -1, 2, 511, -512, 123456789, -987654321, Due.MAX, Due.MIN};
            for (int seed : seeds) {
                int[] things = draw(seed, 6);
                SewnUp x = Due.ruled("heats 99;calms (number=1)*thing;feels 0;");
                Due.come(x, Due.g(0, 0, 0), Due.g(0, 0, 0), Due.g(0, 0, 0), Due.g(0, 0, 0), Due.g(0, 0, 0), Due.g(0, 0, 0));
                for (int g = 0; g < 6; g++) {
                    x.set(2, g, 1);
                    Due.is("drawn(" + seed + ", 1): THING " + g, 594 - x.drawn(seed, 1), things[g]);
                    x.change(g, (g + 1) % 6);
                    Due.is("drawn(" + seed + ", 1), changed", 594 - x.drawn(seed, 1), things[(g + 1) % 6]);
                    x.change(g, (g + 1) % 6);
                    x.set(2, g, 0);
                }
            }
        });
        Due.sentence(19, "DRAWN. BAD: n (0 .. 40).", () -> {
            Due.is("drawn(0, 0) of none", new SewnUp().drawn(0, 0), 0);
            Due.is("drawn(MIN, 40) of none", new SewnUp().drawn(Due.MIN, 40), 0);
            SewnUp x = Due.ruled("heats 1;calms 0;feels 0;", Due.g(0, 0, 0), Due.g(0, 0, 15));
            x.set(0, 0, 999);
            Due.is("drawn(5, 0)", x.drawn(5, 0), 40);
            Due.is("drawn(5, 40)", x.drawn(5, 40), 120);
            Due.is("drawn(5, 41)", x.drawn(5, 41), -2);
            Due.is("drawn(5, -1)", x.drawn(5, -1), -2);
            Due.is("drawn(5, MAX)", x.drawn(5, Due.MAX), -2);
            Due.is("drawn(5, MIN)", x.drawn(5, Due.MIN), -2);
            Due.is("THING stays", x.told(1, 3), 15);
            Due.is("TEMPER stays", x.told(1, 4), 20);
            Due.is("DAY stays", x.told(1, 0), 999);
        });
    }

    private static void chances(int seed, int m, int... numbers) {
        SewnUp x = new SewnUp();
        for (int number : numbers) {
            x.groom(0, number, 0);
        }
        int above = 0;
        for (int k = 0; k < m; k++) {
            above += isOpened(draw((long) seed + k, numbers.length), numbers) ? 1 : 0;
        }
        int common = BigInteger.valueOf(above).gcd(BigInteger.valueOf(m)).intValue();
        String call = "chance(" + seed + ", " + m + ", ";
        Due.is(call + "0) of " + numbers.length, x.chance(seed, m, 0), above / common);
        Due.is(call + "1) of " + numbers.length, x.chance(seed, m, 1), m / common);
    }

    private static void chance() {
        Due.sentence(20, "IN m seeds (1 .. 20), SEED and each 1 more (an int): of these those by which all would be FROM one GROOM or other alone.", () -> {
            int[] seeds = {0, 7, -1, -10, Due.MIN, Due.MAX, Due.MAX - 5, Due.MAX - 19};
            for (int seed : seeds) {
                for (int m = 1; m <= 20; m++) {
                    chances(seed, m, 0, 1);
                    chances(seed, m, 1, 1, 1);
                    chances(seed, m, 3, 3, 8);
                }
            }
        });
        Due.sentence(20, "IN m seeds: part 0 above, 1 below the line, in lowest terms. NO: m, part.", () -> {
            int[] many = {1, 2, 19, 20};
            for (int m : many) {
                Due.is("of none: above", new SewnUp().chance(3, m, 0), 0);
                Due.is("of none: below", new SewnUp().chance(3, m, 1), 1);
                Due.is("of one: above", Due.alike(1).chance(3, m, 0), 1);
                Due.is("of one: below", Due.alike(1).chance(3, m, 1), 1);
                chances(40, m, 1, 2, 3, 4, 5, 6);
            }
            SewnUp x = Due.alike(2);
            int[] bad = {0, -1, 21, Due.MAX, Due.MIN};
            for (int b : bad) {
                Due.is("chance(0, " + b + ", 0)", x.chance(0, b, 0), SewnUp.NO);
                Due.is("chance(0, " + b + ", 1)", x.chance(0, b, 1), SewnUp.NO);
            }
            int[] parts = {-1, 2, Due.MAX, Due.MIN};
            for (int part : parts) {
                Due.is("chance(0, 1, " + part + ")", x.chance(0, 1, part), SewnUp.NO);
                Due.is("chance(0, 0, " + part + ")", x.chance(0, 0, part), SewnUp.NO);
            }
            Due.is("THING stays", x.told(1, 3), 0);
        });
    }

    private static void image() {
        Due.sentence(21, "AN IMAGE is kept: how many GROOMS.", () -> {
            SewnUp x = new SewnUp();
            for (int size = 0; size <= 6; size++) {
                Due.is("image() of " + size, x.image(), size);
                Due.is("back()", x.back(), size);
                x.groom(0, 0, 0);
            }
            Due.is("count(0)", x.count(0), 6);
        });
        Due.sentence(22, "All that it keeps is as in THE IMAGE: how many GROOMS. STATE: there is none.", () -> {
            SewnUp x = new SewnUp();
            Due.is("back()", x.back(), -3);
            x.groom(0, 0, 0);
            Due.is("back()", x.back(), -3);
            x.image();
            Due.is("back()", x.back(), 1);
            Due.is("back() once more", x.back(), 1);
        });
        Due.sentence(22, "(GROOMS that came since go)", () -> {
            SewnUp x = new SewnUp();
            x.image();
            Due.come(x, Due.g(1, 1, 1), Due.g(2, 2, 2), Due.g(3, 3, 3), Due.g(4, 4, 4), Due.g(5, 5, 5), Due.g(0, 0, 0));
            x.change(0, 5);
            Due.is("back()", x.back(), 0);
            Due.is("count(0)", x.count(0), 0);
            Due.is("count(1)", x.count(1), 0);
            Due.is("told(0, 5)", x.told(0, 5), -2);
            Due.is("groom(5, 9, 15)", x.groom(5, 9, 15), 0);
            Due.is("told(0, 6)", x.told(0, 6), 0);
            Due.is("told(0, 4)", x.told(0, 4), 20);
            x.image();
            x.groom(1, 1, 1);
            x.change(0, 1);
            Due.is("back()", x.back(), 1);
            Due.is("told(0, 6)", x.told(0, 6), 0);
            Due.is("told(1, 6)", x.told(1, 6), -2);
        });
        Due.sentence(22, "AN IMAGE keeps DAY, LIMIT, NUMBERS, THINGS, TEMPERS, who WEARS whose COAT, THE RULE", () -> {
            SewnUp x = Due.ruled(Due.RULE, Due.g(3, 9, 15), Due.g(4, 0, 0));
            x.set(0, 0, 999);
            x.set(1, 0, 0);
            x.set(4, 0, 99);
            x.set(4, 1, 0);
            x.change(0, 1);
            x.image();
            x.set(0, 0, 0);
            x.set(1, 0, 99);
            for (int g = 0; g < 2; g++) {
                x.set(2, g, 5);
                x.set(3, g, 5);
                x.set(4, g, 5);
            }
            x.change(0, 1);
            x.force(0);
            x.day();
            x.back();
            int[][] told = {{999, 0, 9, 15, 99, 3, 1}, {999, 0, 0, 0, 0, 4, 0}};
            for (int g = 0; g < 2; g++) {
                for (int what = 0; what < 7; what++) {
                    Due.is("told(" + g + ", " + what + ")", x.told(g, what), told[g][what]);
                }
            }
            Due.is("count(5)", x.count(5), 1);
            x.set(2, 0, 4);
            Due.is("what comes later leaves it alone", x.back(), 2);
            Due.is("told(0, 2)", x.told(0, 2), 9);
        });
        Due.sentence(22, "All that it keeps is as in THE IMAGE", () -> {
            SewnUp x = Due.alike(1);
            x.image();
            Due.force(x, Due.RULE);
            Due.feed(x, "heats");
            x.film(0);
            x.sheet(1, 2, 40);
            x.back();
            Due.is("TEXTS stay", x.count(3), 2);
            Due.is("THE TAPE stays", x.count(4), 5);
            Due.is("THE RULE is back", x.count(5), 0);
            Due.is("a SHEET stays, felt by TEXT 1", x.tells(0, 4), 2);
            Due.is("a SHEET stays", x.cell(1, 39, 1), 1);
            Due.is("force(1)", x.force(1), 0);
        });
    }

    private static void count() {
        Due.sentence(23, "2 that BOIL (TEMPER LIMIT or more)", () -> {
            SewnUp x = Due.alike(6);
            int[] tempers = {0, 1, 49, 50, 51, 99};
            for (int g = 0; g < 6; g++) {
                x.set(4, g, tempers[g]);
            }
            int[] limits = {0, 1, 2, 49, 50, 51, 52, 99};
            int[] boil = {6, 5, 4, 4, 3, 2, 1, 1};
            for (int i = 0; i < limits.length; i++) {
                x.set(1, 0, limits[i]);
                Due.is("count(2) by LIMIT " + limits[i], x.count(2), boil[i]);
            }
            Due.is("count(2) of none", new SewnUp().count(2), 0);
        });
        Due.sentence(23, "How many: 0 GROOMS, 1 WARM, 2 that BOIL (TEMPER LIMIT or more), 3 TEXTS, 4 bytes of THE TAPE, 5 THE RULE. BAD.", () -> {
            SewnUp x = Due.ruled(Due.RULE, Due.g(0, 0, 0), Due.g(0, 0, 0), Due.g(0, 0, 0));
            x.set(4, 1, 60);
            x.feed(32);
            x.feed(32);
            x.feed(32);
            x.feed(32);
            int[] want = {3, 100, 1, 2, 4, 1};
            for (int what = -3; what <= 12; what++) {
                Due.is("count(" + what + ")", x.count(what), what < 0 || what > 5 ? -2 : want[what]);
            }
            Due.is("count(MAX)", x.count(Due.MAX), -2);
            Due.is("count(MIN)", x.count(Due.MIN), -2);
        });
    }

    public static void main(String[] args) {
        whoAndWays();
        whatWouldBe();
        tellsRefused();
        film();
        drawn();
        chance();
        image();
        count();
        Due.end();
    }
}
