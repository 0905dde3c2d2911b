/** Grooms, their coats and what is closed in the pockets; ../shared/DOC.md says what each call does. */
public final class SewnUp {
    public static final int NONE = -1, BAD = -2, STATE = -3, FULL = -4;
    public static final long NO = -4611686018427387904L;

    private static final int NOTHING = -11, OUTSIDE = -12, OTHER = -13, BELOW = -14;

    private static final int MOST_GROOMS = 6, MOST_TEXTS = 6, MOST_SHEETS = 4;
    private static final int MOST_BYTES = 160, MOST_ITEMS = 40;
    private static final int LAST_DAY = 999, MOST_HEAT = 99, LAST_NUMBER = 9, LAST_THING = 15;
    private static final int MOST_DAYS = 40, MOST_BEST_DAYS = 10, MOST_SEEDS = 20;

    private static final int SAILOR = 1, CLERK = 2, DROWNED = 3, SEXTON = 4, BOY = 5, KINDS = 6;
    private static final int[] UNDER = {NONE, 0, 0, SAILOR, CLERK, 0};

    private static final int HEATING = 0, CALMING = 1, FEELING = 2, PARTS = 3;

    /** Tokens: names, keys, and what else there is; a sign is its own byte. */
    private static final int THING = 0, TEMPER = 1, NUMBER = 2, DAY = 3, COAT = 4, OWN = 5, NAMES = 6;
    private static final int HEATS = 6, CALMS = 7, FEELS = 8, OR = 9, AND = 10, NOT = 11, WORDS = 12;
    private static final int DIGITS = 12, END = 13, WRONG = 14;

    /** Codes: a number is itself, a name -1 less it, what joins is -token, and this is a sign ahead of one. */
    private static final int NEGATE = -100;

    private final House house = new House();
    private final House kept = new House();
    private boolean isKept = false;
    private final Text[] texts = new Text[MOST_TEXTS];
    private int textCount = 0;
    private final Reader reader = new Reader();
    private final Sheet[] sheets = new Sheet[MOST_SHEETS];
    private final Man man = new Man();
    private final Ways ways = new Ways();
    private final Pockets pockets = new Pockets();
    private final int[][] tempers = new int[MOST_GROOMS][MOST_GROOMS];
    private final int[] fitting = new int[MOST_GROOMS];

    public SewnUp() {
        for (int i = 0; i < MOST_TEXTS; i++) {
            texts[i] = new Text();
        }
        for (int i = 0; i < MOST_SHEETS; i++) {
            sheets[i] = new Sheet();
        }
        reader.tape.write("heats 7 ; calms thing ; feels thing * 3 ;");
        reader.read(texts[0]);
        textCount = 1;
    }

    // ---- grooms, coats

    public int set(int what, int of, int v) {
        if (!isSettable(what, of) || v < 0 || v > lastOf(what)) {
            return BAD;
        }
        int was = settable(what, of);
        switch (what) {
            case 0: house.day = v; break;
            case 1: house.limit = v; break;
            case 2: house.grooms[of].number = v; break;
            case 3: house.grooms[of].thing = v; break;
            default: house.grooms[of].temper = v; break;
        }
        return was;
    }

    public int groom(int kind, int number, int thing) {
        if (!isKind(kind) || number < 0 || number > LAST_NUMBER || thing < 0 || thing > LAST_THING) {
            return BAD;
        }
        if (house.size >= MOST_GROOMS) {
            return FULL;
        }
        Groom come = house.grooms[house.size];
        come.kind = kind;
        come.number = number;
        come.thing = thing;
        come.temper = 20;
        come.wears = house.size;
        house.size++;
        return house.size - 1;
    }

    public int change(int one, int other) {
        if (!isGroom(one) || !isGroom(other) || one == other) {
            return BAD;
        }
        int first = house.grooms[one].wears;
        house.grooms[one].wears = house.grooms[other].wears;
        house.grooms[other].wears = first;
        return house.grooms[one].wears;
    }

    public int told(int of, int what) {
        if (isSettable(what, of)) {
            return settable(what, of);
        }
        if (!isGroom(of) || what < 5 || what > 10) {
            return BAD;
        }
        seeAsIs(of);
        switch (what) {
            case 5: return man.kind;
            case 6: return man.coat;
            case 7: return man.has;
            case 8: return man.heats(rule());
            case 9: return man.calms(rule());
            default: return man.feels(rule());
        }
    }

    /** With 0 and 1 it does not matter of whom is asked. */
    private boolean isSettable(int what, int of) {
        return what == 0 || what == 1 || what >= 2 && what <= 4 && isGroom(of);
    }

    private int settable(int what, int of) {
        switch (what) {
            case 0: return house.day;
            case 1: return house.limit;
            case 2: return house.grooms[of].number;
            case 3: return house.grooms[of].thing;
            default: return house.grooms[of].temper;
        }
    }

    private static int lastOf(int what) {
        switch (what) {
            case 0: return LAST_DAY;
            case 2: return LAST_NUMBER;
            case 3: return LAST_THING;
            default: return MOST_HEAT;
        }
    }

    private boolean isGroom(int g) {
        return g >= 0 && g < house.size;
    }

    private static boolean isKind(int kind) {
        return kind >= 0 && kind < KINDS;
    }

    private Text rule() {
        return texts[house.rule];
    }

    /** The man is groom g, were he in that coat with that thing in its pocket. */
    private void see(int g, int coat, int thing) {
        Groom groom = house.grooms[g];
        man.kind = groom.kind;
        man.number = groom.number;
        man.temper = groom.temper;
        man.day = house.day;
        man.coat = coat;
        man.own = coat == g ? 1 : 0;
        man.has = thing;
    }

    private void seeIn(int g, int coat) {
        see(g, coat, house.grooms[coat].thing);
    }

    private void seeAsIs(int g) {
        seeIn(g, house.grooms[g].wears);
    }

    // ---- texts

    public int feed(int letter) {
        if (letter < 0 || letter > 255) {
            return BAD;
        }
        Tape tape = reader.tape;
        if (tape.size >= MOST_BYTES) {
            return FULL;
        }
        tape.bytes[tape.size] = letter;
        tape.size++;
        return tape.size;
    }

    public int text() {
        if (textCount >= MOST_TEXTS) {
            return FULL;
        }
        int fault = reader.read(texts[textCount]);
        if (fault != NONE) {
            return -100 - fault;
        }
        textCount++;
        return textCount - 1;
    }

    public int force(int text) {
        if (text < 0 || text >= textCount) {
            return BAD;
        }
        int was = house.rule;
        house.rule = text;
        return was;
    }

    // ---- days

    public int day() {
        if (house.day >= LAST_DAY) {
            return STATE;
        }
        int boiling = 0;
        for (int g = 0; g < house.size; g++) {
            seeAsIs(g);
            if (man.boilsInADay(rule(), house.limit)) {
                boiling++;
            }
            house.grooms[g].temper = man.temper;
        }
        house.day++;
        return boiling;
    }

    public int run(int n, int what) {
        boolean isOfOne = what >= 10 && what < 30 && isGroom(what % 10);
        if (!isDays(n, MOST_DAYS) || what != 0 && what != 1 && !isOfOne) {
            return BAD;
        }
        if (isOfOne) {
            seeAsIs(what % 10);
            man.lives(rule(), house.limit, n);
            return what < 20 ? man.temper : man.firstBoil;
        }
        int warm = 0;
        int boils = 0;
        for (int g = 0; g < house.size; g++) {
            seeAsIs(g);
            man.lives(rule(), house.limit, n);
            warm += man.temper;
            boils += man.boils;
        }
        return what == 0 ? warm : boils;
    }

    private static boolean isDays(int n, int most) {
        return n >= 0 && n <= most;
    }

    // ---- coats

    public int rings(int what) {
        switch (what) {
            case 0: return ringCount();
            case 1: return longestRing();
            case 2: return house.size - ringCount();
            case 3: return firstChange();
            case 4: return inOwn();
            default: return BAD;
        }
    }

    public int ring(int one) {
        return isGroom(one) ? ringOf(one) : BAD;
    }

    private int ringOf(int one) {
        int bits = 0;
        int at = one;
        for (int k = 0; k < house.size; k++) {
            bits |= 1 << at;
            at = house.grooms[at].wears;
        }
        return bits;
    }

    private int ringCount() {
        int many = 0;
        for (int g = 0; g < house.size; g++) {
            boolean isFirstOfIt = (ringOf(g) & (1 << g) - 1) == 0;
            if (isFirstOfIt) {
                many++;
            }
        }
        return many;
    }

    private int longestRing() {
        int most = 0;
        for (int g = 0; g < house.size; g++) {
            most = Math.max(most, Integer.bitCount(ringOf(g)));
        }
        return most;
    }

    /** A change parts a ring just if both are in it, and only parting brings all nearer to their own. */
    private int firstChange() {
        for (int one = 0; one < house.size; one++) {
            int ring = ringOf(one);
            for (int other = one + 1; other < house.size; other++) {
                if ((ring >> other & 1) == 1) {
                    return 10 * one + other;
                }
            }
        }
        return NONE;
    }

    private int inOwn() {
        int bits = 0;
        for (int g = 0; g < house.size; g++) {
            if (house.grooms[g].wears == g) {
                bits |= 1 << g;
            }
        }
        return bits;
    }

    public int better(int n, int what) {
        if (!isDays(n, MOST_DAYS) || what != 0 && what != 1) {
            return BAD;
        }
        foreseeTempers(n);
        int asSo = 0;
        for (int g = 0; g < house.size; g++) {
            asSo += tempers[g][house.grooms[g].wears];
        }
        int least = asSo;
        int change = NONE;
        for (int one = 0; one < house.size; one++) {
            for (int other = one + 1; other < house.size; other++) {
                int warm = asSo + warmerBy(one, other);
                if (warm < least) {
                    least = warm;
                    change = 10 * one + other;
                }
            }
        }
        return what == 0 ? change : least;
    }

    public int best(int n, int what) {
        if (!isDays(n, MOST_BEST_DAYS) || what != 0 && what != 1) {
            return BAD;
        }
        foreseeTempers(n);
        ways.begin(house.size);
        int least = 0;
        int digits = 0;
        for (int k = 0; k < ways.many; k++) {
            int warm = 0;
            for (int g = 0; g < house.size; g++) {
                warm += tempers[g][ways.coats[g]];
            }
            if (k == 0 || warm < least) {
                least = warm;
                digits = ways.digits();
            }
            ways.step();
        }
        return what == 0 ? digits : least;
    }

    /** No groom's days depend on another's, so that a table of each in each coat serves all ways to wear them. */
    private void foreseeTempers(int n) {
        for (int g = 0; g < house.size; g++) {
            for (int coat = 0; coat < house.size; coat++) {
                seeIn(g, coat);
                man.lives(rule(), house.limit, n);
                tempers[g][coat] = man.temper;
            }
        }
    }

    private int warmerBy(int one, int other) {
        int ones = house.grooms[one].wears;
        int others = house.grooms[other].wears;
        return tempers[one][others] + tempers[other][ones] - tempers[one][ones] - tempers[other][others];
    }

    public int from(int one) {
        if (!isGroom(one)) {
            return BAD;
        }
        fillPockets();
        pockets.open();
        return pockets.opened[one];
    }

    public int keys(int what) {
        fillPockets();
        pockets.open();
        switch (what) {
            case 0: return pockets.key();
            case 1: return pockets.mostOpened();
            case 2: return pockets.fewest();
            case 3: return Integer.bitCount(pockets.fewest());
            default: return BAD;
        }
    }

    private void fillPockets() {
        pockets.size = house.size;
        for (int g = 0; g < house.size; g++) {
            pockets.numbers[g] = house.grooms[g].number;
            pockets.things[g] = house.grooms[g].thing;
        }
    }

    // ---- what was felt

    public int tells(int sheet, int what) {
        boolean isOfOne = what >= 10 && what < 40 && isGroom(what % 10);
        if (!isSheet(sheet) || (what < 0 || what > 4) && !isOfOne) {
            return BAD;
        }
        Sheet felt = sheets[sheet];
        if (felt.isMissing()) {
            return NOTHING;
        }
        if (felt.size != house.size) {
            return BAD;
        }
        if (isOfOne) {
            return wouldBeSo(felt, what / 10, what % 10);
        }
        switch (what) {
            case 0: return otherwise(felt, rule());
            case 4: return textsBy(felt);
            default: return waysBy(felt, what);
        }
    }

    private int otherwise(Sheet felt, Text text) {
        int bits = 0;
        for (int g = 0; g < house.size; g++) {
            seeAsIs(g);
            if (man.feels(text) != felt.items[g]) {
                bits |= 1 << g;
            }
        }
        return bits;
    }

    private int textsBy(Sheet felt) {
        int bits = 0;
        for (int i = 0; i < textCount; i++) {
            if (otherwise(felt, texts[i]) == 0) {
                bits |= 1 << i;
            }
        }
        return bits;
    }

    /** KINDS (1), NUMBERS (2), THINGS (3) of one; what is in his own coat is felt of who wears it. */
    private int wouldBeSo(Sheet felt, int what, int one) {
        int dancer = what == 3 ? wearerOf(one) : one;
        int others = otherwise(felt, rule()) & ~(1 << dancer);
        if (others != 0) {
            return 0;
        }
        int bits = 0;
        int last = what == 1 ? KINDS - 1 : what == 2 ? LAST_NUMBER : LAST_THING;
        seeAsIs(dancer);
        for (int v = 0; v <= last; v++) {
            switch (what) {
                case 1: man.kind = v; break;
                case 2: man.number = v; break;
                default: man.has = v; break;
            }
            if (man.feels(rule()) == felt.items[dancer]) {
                bits |= 1 << v;
            }
        }
        return bits;
    }

    private int wearerOf(int coat) {
        for (int g = 0; g < house.size; g++) {
            if (house.grooms[g].wears == coat) {
                return g;
            }
        }
        return coat;
    }

    /** WAYS (1), the first of them (2), SURE (3). */
    private int waysBy(Sheet felt, int what) {
        fitCoats(felt);
        ways.begin(house.size);
        int found = 0;
        int first = 0;
        int sure = (1 << house.size) - 1;
        for (int k = 0; k < ways.many; k++) {
            if (ways.isAmong(fitting)) {
                found++;
                if (found == 1) {
                    first = ways.digits();
                    ways.mark();
                }
                sure &= ways.asMarked();
            }
            ways.step();
        }
        switch (what) {
            case 1: return found;
            case 2: return first;
            default: return found == 0 ? 0 : sure;
        }
    }

    private void fitCoats(Sheet felt) {
        for (int g = 0; g < house.size; g++) {
            fitting[g] = 0;
            for (int coat = 0; coat < house.size; coat++) {
                seeIn(g, coat);
                if (man.feels(rule()) == felt.items[g]) {
                    fitting[g] |= 1 << coat;
                }
            }
        }
    }

    public int film(int sheet) {
        if (!isSheet(sheet)) {
            return BAD;
        }
        Sheet felt = sheets[sheet];
        felt.become(0, house.size);
        for (int g = 0; g < house.size; g++) {
            seeAsIs(g);
            felt.put(g, man.feels(rule()));
        }
        return house.size;
    }

    public int drawn(int seed, int n) {
        if (!isDays(n, MOST_DAYS)) {
            return BAD;
        }
        fillPockets();
        pockets.draw(seed);
        int warm = 0;
        for (int g = 0; g < house.size; g++) {
            int coat = house.grooms[g].wears;
            see(g, coat, pockets.things[coat]);
            man.lives(rule(), house.limit, n);
            warm += man.temper;
        }
        return warm;
    }

    public long chance(int seed, int m, int part) {
        if (m < 1 || m > MOST_SEEDS || part != 0 && part != 1) {
            return NO;
        }
        fillPockets();
        int open = 0;
        for (int k = 0; k < m; k++) {
            pockets.draw(seed + k);
            pockets.open();
            if (pockets.areAllFromOne()) {
                open++;
            }
        }
        int common = commonOf(open, m);
        return part == 0 ? open / common : m / common;
    }

    private static int commonOf(int some, int all) {
        for (int d = all; d > 1; d--) {
            if (some % d == 0 && all % d == 0) {
                return d;
            }
        }
        return 1;
    }

    public int image() {
        kept.become(house);
        isKept = true;
        return house.size;
    }

    public int back() {
        if (!isKept) {
            return STATE;
        }
        house.become(kept);
        return house.size;
    }

    public int count(int what) {
        switch (what) {
            case 0: return house.size;
            case 1: return house.warm();
            case 2: return house.boiling();
            case 3: return textCount;
            case 4: return reader.tape.size;
            case 5: return house.rule;
            default: return BAD;
        }
    }

    // ---- the host

    public int sheet(int sheet, int sort, int n) {
        if (!isSheet(sheet) || sort != NONE && !isSort(sort)) {
            return BAD;
        }
        if (sort == NONE) {
            sheets[sheet].become(NONE, 0);
            return 1;
        }
        if (n > MOST_ITEMS) {
            return BAD;
        }
        if (n < 0) {
            return BELOW;
        }
        sheets[sheet].become(sort, n);
        return 1;
    }

    public int cell(int sheet, int i, int v) {
        if (!isSheet(sheet)) {
            return BAD;
        }
        Sheet row = sheets[sheet];
        if (row.isMissing()) {
            return NOTHING;
        }
        if (i < 0 || i >= row.size) {
            return OUTSIDE;
        }
        row.put(i, v);
        return 1;
    }

    public int copy(int sheet, int i, int other, int j, int n) {
        if (!isSheet(sheet) || !isSheet(other)) {
            return BAD;
        }
        Sheet source = sheets[sheet];
        Sheet target = sheets[other];
        if (source.isMissing() || target.isMissing()) {
            return NOTHING;
        }
        if (source.sort != target.sort) {
            return OTHER;
        }
        if (!source.has(i, n) || !target.has(j, n)) {
            return OUTSIDE;
        }
        System.arraycopy(source.items, i, target.items, j, n);
        return n;
    }

    public int grooms(int sheet, int sort, int from, int n) {
        if (!isSheet(sheet) || !isSort(sort) || n < 0 || n > MOST_GROOMS) {
            return BAD;
        }
        Sheet row = sheets[sheet];
        if (row.isMissing()) {
            return NOTHING;
        }
        if (row.sort != sort) {
            return OTHER;
        }
        int came = 0;
        for (int k = 0; k < n; k++) {
            if (!row.has(from, 3 * k + 3)) {
                return OUTSIDE;
            }
            int at = from + 3 * k;
            if (groom(row.items[at], row.items[at + 1], row.items[at + 2]) >= 0) {
                came++;
            }
        }
        return came;
    }

    public int taken(int groom, int k) {
        if (!isKind(k)) {
            return BAD;
        }
        if (!isGroom(groom)) {
            return NOTHING;
        }
        return isUnder(house.grooms[groom].kind, k) ? house.grooms[groom].number : OTHER;
    }

    private static boolean isUnder(int kind, int above) {
        int at = kind;
        for (int k = 0; k < KINDS && isKind(at); k++) {
            if (at == above) {
                return true;
            }
            at = UNDER[at];
        }
        return false;
    }

    private static boolean isSheet(int sheet) {
        return sheet >= 0 && sheet < MOST_SHEETS;
    }

    private static boolean isSort(int sort) {
        return sort >= 0 && sort <= 2;
    }

    private static int within(int v) {
        return v < 0 ? 0 : v > MOST_HEAT ? MOST_HEAT : v;
    }

    private static final class Groom {
        int kind = 0;
        int number = 0;
        int thing = 0;
        int temper = 0;
        int wears = 0;

        void become(Groom other) {
            kind = other.kind;
            number = other.number;
            thing = other.thing;
            temper = other.temper;
            wears = other.wears;
        }
    }

    /** All that an image keeps. */
    private static final class House {
        int day = 0;
        int limit = 60;
        int rule = 0;
        int size = 0;
        final Groom[] grooms = new Groom[MOST_GROOMS];

        House() {
            for (int g = 0; g < MOST_GROOMS; g++) {
                grooms[g] = new Groom();
            }
        }

        void become(House other) {
            day = other.day;
            limit = other.limit;
            rule = other.rule;
            size = other.size;
            for (int g = 0; g < size; g++) {
                grooms[g].become(other.grooms[g]);
            }
        }

        int warm() {
            int warm = 0;
            for (int g = 0; g < size; g++) {
                warm += grooms[g].temper;
            }
            return warm;
        }

        int boiling() {
            int boiling = 0;
            for (int g = 0; g < size; g++) {
                if (grooms[g].temper >= limit) {
                    boiling++;
                }
            }
            return boiling;
        }
    }

    /** One groom as he is or would be, apart from the house, so that thoughts leave it alone. */
    private static final class Man {
        int kind = 0;
        int number = 0;
        int has = 0;
        int temper = 0;
        int day = 0;
        int coat = 0;
        int own = 0;
        int boils = 0;
        int firstBoil = NONE;
        private final int[] names = new int[NAMES];

        int heats(Text rule) {
            nameAll();
            int v = within(rule.answer(HEATING, names));
            switch (kind) {
                case SAILOR: return within(v + 3);
                case CLERK: return v / 2;
                case DROWNED: return day % 4 == 1 ? 0 : within(v + 3);
                case SEXTON: return within(v / 2 - number);
                case BOY: return within(2 * v);
                default: return v;
            }
        }

        int calms(Text rule) {
            nameAll();
            int v = within(rule.answer(CALMING, names));
            int sailors = has % 2 == 0 ? v : v / 2;
            switch (kind) {
                case SAILOR: return sailors;
                case CLERK: return within(v + 2);
                case DROWNED: return within(sailors + number);
                case SEXTON: return has == 7 || has == 13 ? 0 : within(v + 2);
                case BOY: return has;
                default: return v;
            }
        }

        int feels(Text rule) {
            nameNone();
            names[THING] = has;
            names[NUMBER] = number;
            int v = within(rule.answer(FEELING, names));
            switch (kind) {
                case CLERK: return v % 10;
                case DROWNED: return within(2 * v);
                case SEXTON: return v % 10 + 1;
                case BOY: return v < 5 ? 0 : v;
                default: return v;
            }
        }

        boolean boilsInADay(Text rule, int limit) {
            temper = Math.min(MOST_HEAT, temper + heats(rule));
            boolean isOver = temper >= limit;
            temper = Math.max(0, temper - calms(rule));
            day++;
            return isOver;
        }

        void lives(Text rule, int limit, int days) {
            boils = 0;
            firstBoil = NONE;
            for (int d = 0; d < days; d++) {
                if (boilsInADay(rule, limit)) {
                    boils++;
                    firstBoil = firstBoil == NONE ? d : firstBoil;
                }
            }
        }

        private void nameAll() {
            names[THING] = has;
            names[TEMPER] = temper;
            names[NUMBER] = number;
            names[DAY] = day;
            names[COAT] = coat;
            names[OWN] = own;
        }

        private void nameNone() {
            for (int i = 0; i < NAMES; i++) {
                names[i] = 0;
            }
        }
    }

    /** What is in whose own coat, whose number each has, and what could be opened from each. */
    private static final class Pockets {
        int size = 0;
        final int[] numbers = new int[MOST_GROOMS];
        final int[] things = new int[MOST_GROOMS];
        final int[] opened = new int[MOST_GROOMS];

        void draw(int seed) {
            int z = seed;
            for (int g = 0; g < size; g++) {
                z = z * 1103515245 + 12345;
                things[g] = (z >>> 9) % 16;
            }
        }

        /** In as many rounds as there are pockets all that can be opened is open. */
        void open() {
            for (int g = 0; g < size; g++) {
                opened[g] = 1 << g | openedBy(things[g]);
            }
            for (int round = 0; round < size; round++) {
                for (int g = 0; g < size; g++) {
                    opened[g] = openedFrom(opened[g]);
                }
            }
        }

        private int openedBy(int thing) {
            int bits = 0;
            for (int g = 0; g < size; g++) {
                if (thing >= 8 && thing % 8 == numbers[g] % 8) {
                    bits |= 1 << g;
                }
            }
            return bits;
        }

        private int openedFrom(int some) {
            int bits = 0;
            for (int g = 0; g < size; g++) {
                if ((some >> g & 1) == 1) {
                    bits |= opened[g];
                }
            }
            return bits;
        }

        int key() {
            int key = NONE;
            int most = 0;
            for (int g = 0; g < size; g++) {
                int many = Integer.bitCount(opened[g]);
                if (many > most) {
                    most = many;
                    key = g;
                }
            }
            return key;
        }

        int mostOpened() {
            int most = 0;
            for (int g = 0; g < size; g++) {
                most = Math.max(most, Integer.bitCount(opened[g]));
            }
            return most;
        }

        boolean areAllFromOne() {
            return size > 0 && mostOpened() == size;
        }

        int fewest() {
            int all = (1 << size) - 1;
            int fewest = all;
            for (int some = 0; some < all; some++) {
                if (Integer.bitCount(some) < Integer.bitCount(fewest) && openedFrom(some) == all) {
                    fewest = some;
                }
            }
            return fewest;
        }
    }

    /** All ways to wear the coats, one behind the other, the least digits first. */
    private static final class Ways {
        int size = 0;
        int many = 1;
        final int[] coats = new int[MOST_GROOMS];
        private final int[] marked = new int[MOST_GROOMS];

        void begin(int grooms) {
            size = grooms;
            many = 1;
            for (int g = 0; g < size; g++) {
                coats[g] = g;
                many *= g + 1;
            }
        }

        /** The next way; behind the last it stays. */
        void step() {
            int low = size - 2;
            while (low >= 0 && coats[low] > coats[low + 1]) {
                low--;
            }
            if (low < 0) {
                return;
            }
            int high = size - 1;
            while (high > low && coats[high] < coats[low]) {
                high--;
            }
            swap(low, high);
            for (int i = low + 1, j = size - 1; i < j; i++, j--) {
                swap(i, j);
            }
        }

        private void swap(int i, int j) {
            int coat = coats[i];
            coats[i] = coats[j];
            coats[j] = coat;
        }

        int digits() {
            int digits = 0;
            for (int g = 0; g < size; g++) {
                digits = 10 * digits + coats[g] + 1;
            }
            return digits;
        }

        boolean isAmong(int[] fitting) {
            for (int g = 0; g < size; g++) {
                if ((fitting[g] >> coats[g] & 1) == 0) {
                    return false;
                }
            }
            return true;
        }

        void mark() {
            for (int g = 0; g < size; g++) {
                marked[g] = coats[g];
            }
        }

        int asMarked() {
            int bits = 0;
            for (int g = 0; g < size; g++) {
                if (coats[g] == marked[g]) {
                    bits |= 1 << g;
                }
            }
            return bits;
        }
    }

    /** A row of numbers; of no sort while it is missing. */
    private static final class Sheet {
        int sort = NONE;
        int size = 0;
        final int[] items = new int[MOST_ITEMS];

        boolean isMissing() {
            return sort == NONE;
        }

        void become(int newSort, int newSize) {
            sort = newSort;
            size = newSize;
            for (int i = 0; i < size; i++) {
                items[i] = 0;
            }
        }

        void put(int i, int v) {
            switch (sort) {
                case 0: items[i] = (byte) v; break;
                case 1: items[i] = (short) v; break;
                default: items[i] = v; break;
            }
        }

        boolean has(int i, int n) {
            return n >= 0 && i >= 0 && i <= size - n;
        }
    }

    /** Three rows of codes, what is joined ahead of what joins it, behind one another. */
    private static final class Text {
        final int[] codes = new int[MOST_BYTES];
        final int[] begins = new int[PARTS + 1];
        private final int[] stack = new int[MOST_BYTES];

        int answer(int part, int[] names) {
            int top = 0;
            for (int at = begins[part]; at < begins[part + 1]; at++) {
                int code = codes[at];
                if (code >= -NAMES && top < MOST_BYTES) {
                    stack[top] = code >= 0 ? code : names[-1 - code];
                    top++;
                } else if (code == NEGATE && top >= 1) {
                    stack[top - 1] = -stack[top - 1];
                } else if (code == -NOT && top >= 1) {
                    stack[top - 1] = stack[top - 1] == 0 ? 1 : 0;
                } else if (top >= 2) {
                    stack[top - 2] = joined(-code, stack[top - 2], stack[top - 1]);
                    top--;
                }
            }
            return stack[0];
        }

        private static int joined(int token, int a, int b) {
            switch (token) {
                case '+': return a + b;
                case '-': return a - b;
                case '*': return a * b;
                case '<': return a < b ? 1 : 0;
                case '=': return a == b ? 1 : 0;
                case OR: return a != 0 || b != 0 ? 1 : 0;
                default: return a != 0 && b != 0 ? 1 : 0;
            }
        }
    }

    /** The tape, cut into tokens; what can't be one is WRONG and ends them, as the end does. */
    private static final class Tape {
        private static final int MOST_DIGITS = 4;

        final int[] bytes = new int[MOST_BYTES];
        int size = 0;
        final int[] tokens = new int[MOST_BYTES + 1];
        final int[] places = new int[MOST_BYTES + 1];
        final int[] values = new int[MOST_BYTES + 1];
        private int next = 0;

        void write(String letters) {
            size = Math.min(letters.length(), MOST_BYTES);
            for (int i = 0; i < size; i++) {
                bytes[i] = letters.charAt(i);
            }
        }

        void cut() {
            next = 0;
            boolean goesOn = true;
            for (int t = 0; t <= MOST_BYTES && goesOn; t++) {
                passBlanks();
                places[t] = next;
                values[t] = 0;
                tokens[t] = cutOne(t);
                goesOn = tokens[t] != END && tokens[t] != WRONG;
            }
        }

        private void passBlanks() {
            while (next < size && (bytes[next] == ' ' || bytes[next] == 10)) {
                next++;
            }
        }

        private int cutOne(int t) {
            if (next >= size) {
                return END;
            }
            if (isLetter(next)) {
                return cutWord();
            }
            if (isDigit(next)) {
                return cutNumber(t);
            }
            next++;
            return signAt(next - 1);
        }

        private int cutWord() {
            int start = next;
            while (next < size && isLetter(next)) {
                next++;
            }
            for (int word = 0; word < WORDS; word++) {
                if (isSpelled(start, spelling(word))) {
                    return word;
                }
            }
            return WRONG;
        }

        private boolean isSpelled(int start, String word) {
            if (word.length() != next - start) {
                return false;
            }
            for (int i = 0; i < word.length(); i++) {
                if (word.charAt(i) != bytes[start + i]) {
                    return false;
                }
            }
            return true;
        }

        private int cutNumber(int t) {
            int start = next;
            while (next < size && isDigit(next)) {
                values[t] = 10 * values[t] + bytes[next] - '0';
                next++;
            }
            return next - start <= MOST_DIGITS ? DIGITS : WRONG;
        }

        private int signAt(int place) {
            switch (bytes[place]) {
                case '(': case ')': case ';': case '+': case '-': case '*': case '<': case '=':
                    return bytes[place];
                default:
                    return WRONG;
            }
        }

        private boolean isLetter(int place) {
            return bytes[place] >= 'a' && bytes[place] <= 'z';
        }

        private boolean isDigit(int place) {
            return bytes[place] >= '0' && bytes[place] <= '9';
        }

        private static String spelling(int word) {
            switch (word) {
                case THING: return "thing";
                case TEMPER: return "temper";
                case NUMBER: return "number";
                case DAY: return "day";
                case COAT: return "coat";
                case OWN: return "own";
                case HEATS: return "heats";
                case CALMS: return "calms";
                case FEELS: return "feels";
                case OR: return "or";
                case AND: return "and";
                default: return "not";
            }
        }
    }

    /** Reads the tape's tokens; what can't go on leaves the token that is at fault as the one at hand. */
    private static final class Reader {
        private static final int MOST_OPEN = 5;

        final Tape tape = new Tape();
        private Text into = null;
        private int length = 0;
        private int at = 0;
        private int token = END;

        /** The place of the fault, or NONE; the tape is empty then. */
        int read(Text text) {
            into = text;
            length = 0;
            at = 0;
            tape.cut();
            token = tape.tokens[0];
            boolean isSo = readsParts() && token == END;
            tape.size = 0;
            return isSo ? NONE : tape.places[at];
        }

        private boolean readsParts() {
            for (int part = 0; part < PARTS; part++) {
                begin(part);
                if (!eats(HEATS + part) || !readsAny(0) || !eats(';')) {
                    return false;
                }
            }
            begin(PARTS);
            return true;
        }

        private boolean readsAny(int open) {
            if (!readsAll(open)) {
                return false;
            }
            for (int k = 0; k < MOST_BYTES && token == OR; k++) {
                pass();
                if (!readsAll(open)) {
                    return false;
                }
                put(-OR);
            }
            return true;
        }

        private boolean readsAll(int open) {
            if (!readsNot(open)) {
                return false;
            }
            for (int k = 0; k < MOST_BYTES && token == AND; k++) {
                pass();
                if (!readsNot(open)) {
                    return false;
                }
                put(-AND);
            }
            return true;
        }

        private boolean readsNot(int open) {
            if (token != NOT) {
                return readsLess(open);
            }
            if (open >= MOST_OPEN) {
                return false;
            }
            pass();
            if (!readsNot(open + 1)) {
                return false;
            }
            put(-NOT);
            return true;
        }

        private boolean readsLess(int open) {
            if (!readsSum(open)) {
                return false;
            }
            int sign = token;
            if (sign != '<' && sign != '=') {
                return true;
            }
            pass();
            if (!readsSum(open)) {
                return false;
            }
            put(-sign);
            return true;
        }

        private boolean readsSum(int open) {
            if (!readsTerm(open)) {
                return false;
            }
            for (int k = 0; k < MOST_BYTES && (token == '+' || token == '-'); k++) {
                int sign = token;
                pass();
                if (!readsTerm(open)) {
                    return false;
                }
                put(-sign);
            }
            return true;
        }

        private boolean readsTerm(int open) {
            if (!readsOne(open)) {
                return false;
            }
            for (int k = 0; k < MOST_BYTES && token == '*'; k++) {
                pass();
                if (!readsOne(open)) {
                    return false;
                }
                put(-'*');
            }
            return true;
        }

        private boolean readsOne(int open) {
            if (token == DIGITS || token < NAMES) {
                put(token == DIGITS ? tape.values[at] : -1 - token);
                pass();
                return true;
            }
            if (token != '-' && token != '(' || open >= MOST_OPEN) {
                return false;
            }
            if (eats('(')) {
                return readsAny(open + 1) && eats(')');
            }
            pass();
            if (!readsOne(open + 1)) {
                return false;
            }
            put(NEGATE);
            return true;
        }

        private boolean eats(int wanted) {
            if (token != wanted) {
                return false;
            }
            pass();
            return true;
        }

        private void pass() {
            if (at < MOST_BYTES) {
                at++;
            }
            token = tape.tokens[at];
        }

        private void begin(int part) {
            if (into != null) {
                into.begins[part] = length;
            }
        }

        /** No token makes more than one code, so that there is room. */
        private void put(int code) {
            if (into != null && length < MOST_BYTES) {
                into.codes[length] = code;
                length++;
            }
        }
    }
}
