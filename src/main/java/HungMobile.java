/** Mobiles of rods and things, as DOC.md promises: what hangs where, what is level, and what would make it so. */
public final class HungMobile {
    public static final int NONE = -1, UNKNOWN = -101, OUTSIDE = -102, STATE = -103, FULL = -104, FAR = 99, TOLD = 10000;

    private static final int MOST_LETTERS = 46;
    private static final int MOST_RODS = 5;
    private static final int MOST_ARMS = 2 * MOST_RODS;
    private static final int MOST_THINGS = MOST_RODS + 1;
    private static final int MOST_SEEN = 6;
    private static final int MOST_HOURS = 999;
    private static final int MOST_LAYS = 20;
    private static final int MOST_ADDED = 30;
    private static final int MOST_EVENINGS = 60;
    private static final int EVEN_HOURS = 20;
    private static final int SIZES = 10;
    private static final int ROD_ANSWERS = 11;
    private static final int THING_ANSWERS = 7;
    private static final int COUNTS = 11;
    private static final int LAID_AT = 10;

    /** What hangs from an arm is one number: a ROD's own, or this and that of a THING or PLACE. */
    private static final int THING = 10;

    private final Page page;
    private final Reader reader;
    private final Mobile now;
    private final Mobile kept;
    private final Scale scale;
    private final Layings layings;
    private final Evenings nights;
    private boolean isKept;
    private int reads;
    private int lays;

    public HungMobile() {
        page = new Page();
        reader = new Reader();
        now = new Mobile();
        kept = new Mobile();
        scale = new Scale();
        layings = new Layings();
        nights = new Evenings();
    }

    // ---- the mobile

    public int letter(int code) {
        if (code < 1 || code > 126) {
            return OUTSIDE;
        }
        if (page.length >= MOST_LETTERS) {
            return FULL;
        }
        page.codes[page.length] = code;
        page.length++;
        return page.length;
    }

    public int blank() {
        int had = page.length;
        page.length = 0;
        return had;
    }

    public int fault() {
        return reader.readLetters(page);
    }

    public int mobile() {
        if (reader.readLetters(page) < page.length || !reader.isWhole()) {
            return STATE;
        }
        now.hangAsRead(reader);
        page.length = 0;
        isKept = false;
        reads++;
        return now.things;
    }

    public int rod(int rod, int what) {
        if (!isRod(rod)) {
            return UNKNOWN;
        }
        if (what < 0 || what >= ROD_ANSWERS) {
            return OUTSIDE;
        }
        scale.weigh(now);
        return aboutRod(rod, what);
    }

    public int thing(int thing, int what) {
        if (!isThing(thing)) {
            return UNKNOWN;
        }
        if (what < 0 || what >= THING_ANSWERS) {
            return OUTSIDE;
        }
        return aboutThing(thing, what);
    }

    public int as(int thing, int kind) {
        if (!isThing(thing)) {
            return UNKNOWN;
        }
        if (!Kinds.isKind(kind)) {
            return OUTSIDE;
        }
        return Kinds.isA(now.kinds[thing], kind) ? thing : NONE;
    }

    // ---- what is done

    public int hour() {
        if (!hasMobile()) {
            return STATE;
        }
        if (now.hours >= MOST_HOURS) {
            return FULL;
        }
        now.hours++;
        return now.hours;
    }

    public int exchange(int one, int other) {
        if (!isThing(one) || !isThing(other) || one == other) {
            return UNKNOWN;
        }
        if (now.thingCut[one] || now.thingCut[other]) {
            return STATE;
        }
        swapThings(now.laid, one, other);
        return levelNow();
    }

    public int move(int rod, int left) {
        if (!isRod(rod)) {
            return UNKNOWN;
        }
        int was = now.lengths[2 * rod];
        int both = was + now.lengths[2 * rod + 1];
        if (left < 1 || left >= both) {
            return OUTSIDE;
        }
        now.lengths[2 * rod] = left;
        now.lengths[2 * rod + 1] = both - left;
        return was;
    }

    public int cut(int thing) {
        if (!isThing(thing)) {
            return UNKNOWN;
        }
        if (now.thingCut[thing]) {
            return STATE;
        }
        now.thingCut[thing] = true;
        return levelNow();
    }

    public int drop(int rod) {
        if (!isRod(rod) || rod == 0) {
            return UNKNOWN;
        }
        if (now.rodCut[rod]) {
            return STATE;
        }
        now.rodCut[rod] = true;
        scale.weigh(now);
        return scale.rodsThere(now);
    }

    public int mend() {
        return now.hangAllAgain();
    }

    public int change(int thing, int kind, int size) {
        if (!isThing(thing)) {
            return UNKNOWN;
        }
        if (!Kinds.isKind(kind) || !isSize(size)) {
            return OUTSIDE;
        }
        int was = now.kinds[thing];
        now.kinds[thing] = kind;
        now.sizes[thing] = size;
        return was;
    }

    // ---- what would be

    public int best() {
        return hasMobile() ? layings.bestExchange(now) : STATE;
    }

    public int lay(int what) {
        boolean isPlace = what >= LAID_AT && what < LAID_AT + MOST_THINGS;
        if (what != 0 && what != 1 && !isPlace) {
            return OUTSIDE;
        }
        if (!hasMobile() || lays >= MOST_LAYS) {
            return STATE;
        }
        lays++;
        layings.findBestLaying(now);
        if (isPlace) {
            return layings.bestLaid[what - LAID_AT];
        }
        return what == 0 ? layings.mostLevel : layings.leastTilt;
    }

    public int even() {
        return hasMobile() ? nights.hoursUntilLevel(now) : STATE;
    }

    public int odds(int what) {
        if (what != 0 && what != 1) {
            return OUTSIDE;
        }
        if (!hasMobile()) {
            return STATE;
        }
        layings.findOdds(now);
        return what == 0 ? layings.oddsAbove : layings.oddsBelow;
    }

    // ---- what is seen

    public int see(int thing, int rod, int bead, int how) {
        if (!isThing(thing) || !isRod(rod)) {
            return UNKNOWN;
        }
        if (!isSize(bead) || how < Seen.LEFT || how > Seen.RIGHT) {
            return OUTSIDE;
        }
        if (now.seen.entries >= MOST_SEEN) {
            return FULL;
        }
        now.seen.add(thing, rod, bead, how);
        return now.seen.entries;
    }

    public int forget() {
        int was = now.seen.entries;
        now.seen.entries = 0;
        return was;
    }

    public int trial(int thing, int rod) {
        if (!isThing(thing) || !isRod(rod)) {
            return UNKNOWN;
        }
        return now.seen.beadToTry(now, thing, rod);
    }

    public int evenings(int times, int seed, int what) {
        if (times < 1 || times > MOST_EVENINGS || seed < 0 || what < 0 || what > 2) {
            return OUTSIDE;
        }
        if (!hasMobile()) {
            return STATE;
        }
        nights.pass(now, times, seed);
        if (what == 0) {
            return nights.level;
        }
        return what == 1 ? nights.tilt + TOLD : nights.seed;
    }

    // ---- what is told of all

    public int image() {
        if (!hasMobile()) {
            return STATE;
        }
        kept.copyFrom(now);
        isKept = true;
        return now.hours;
    }

    public int restore() {
        if (!isKept) {
            return STATE;
        }
        now.copyFrom(kept);
        return now.hours;
    }

    public int count(int what) {
        if (what < 0 || what >= COUNTS) {
            return OUTSIDE;
        }
        scale.weigh(now);
        return countOf(what);
    }

    public long digest() {
        long h = 1303;
        scale.weigh(now);
        for (int rod = 0; rod < now.rods; rod++) {
            for (int what = 0; what < ROD_ANSWERS; what++) {
                h = 31 * h + aboutRod(rod, what);
            }
        }
        for (int thing = 0; thing < now.things; thing++) {
            for (int what = 0; what < THING_ANSWERS; what++) {
                h = 31 * h + aboutThing(thing, what);
            }
            h = 31 * h + now.seen.beadToTry(now, thing, 0);
        }
        if (hasMobile()) {
            h = 31 * h + best();
            h = 31 * h + even();
            layings.findOdds(now);
            h = 31 * h + layings.oddsAbove;
            h = 31 * h + layings.oddsBelow;
        }
        for (int i = 0; i < page.length; i++) {
            h = 31 * h + page.codes[i];
        }
        for (int what = 0; what < COUNTS; what++) {
            h = 31 * h + countOf(what);
        }
        return h;
    }

    private boolean hasMobile() {
        return now.rods > 0;
    }

    private boolean isRod(int number) {
        return number >= 0 && number < now.rods;
    }

    private boolean isThing(int number) {
        return number >= 0 && number < now.things;
    }

    private static boolean isSize(int size) {
        return size >= 0 && size < SIZES;
    }

    private int levelNow() {
        scale.weigh(now);
        return scale.rodsLevel(now);
    }

    /** The scale must have weighed THE MOBILE as it is. */
    private int aboutRod(int rod, int what) {
        switch (what) {
            case 0:
                return now.lengths[2 * rod];
            case 1:
                return now.lengths[2 * rod + 1];
            case 2:
                return now.hangingFrom(2 * rod);
            case 3:
                return now.hangingFrom(2 * rod + 1);
            case 4:
                return scale.loads[2 * rod] + TOLD;
            case 5:
                return scale.loads[2 * rod + 1] + TOLD;
            case 6:
                return scale.tilts[rod] + TOLD;
            case 7:
                return scale.tilts[rod] == 0 ? 1 : 0;
            case 8:
                return scale.there[rod] ? 1 : 0;
            case 9:
                return scale.hookFor(now, rod);
            default:
                return scale.beadToAdd(now, rod);
        }
    }

    private int aboutThing(int thing, int what) {
        switch (what) {
            case 0:
                return now.kinds[thing];
            case 1:
                return now.sizes[thing];
            case 2:
                return Kinds.weight(now.kinds[thing], now.sizes[thing], now.hours) + TOLD;
            case 3:
                return now.thingCut[thing] ? 1 : 0;
            case 4:
                return now.armOf(thing) / 2;
            case 5:
                return now.armOf(thing) % 2;
            default:
                return now.seen.sizesOf(now, thing);
        }
    }

    /** The scale must have weighed THE MOBILE as it is. */
    private int countOf(int what) {
        switch (what) {
            case 0:
                return now.rods;
            case 1:
                return now.things;
            case 2:
                return scale.rodsThere(now);
            case 3:
                return scale.rodsLevel(now);
            case 4:
                return scale.thingsThere(now);
            case 5:
                return now.hours;
            case 6:
                return hasMobile() ? scale.loads[0] + scale.loads[1] + TOLD : TOLD;
            case 7:
                return now.seen.entries;
            case 8:
                return page.length;
            case 9:
                return reads;
            default:
                return lays;
        }
    }

    private static void swapThings(int[] laid, int one, int other) {
        for (int place = 0; place < laid.length; place++) {
            if (laid[place] == one) {
                laid[place] = other;
            } else if (laid[place] == other) {
                laid[place] = one;
            }
        }
    }

    /** The KINDS, by their numbers. */
    private static final class Kinds {
        private static final int BEAD = 0, BELL = 1, FEATHER = 2, BALLOON = 3, DROP = 4;
        private static final String LETTERS = "blfod";

        static boolean isKind(int kind) {
            return kind >= BEAD && kind <= DROP;
        }

        static boolean isA(int kind, int wanted) {
            return wanted == kind || wanted == BEAD || (kind == DROP && wanted == BELL);
        }

        static int weight(int kind, int size, int hours) {
            switch (kind) {
                case BELL:
                    return 2 * size;
                case FEATHER:
                    return 0;
                case BALLOON:
                    return -size;
                case DROP:
                    return Math.max(0, 2 * size - hours);
                default:
                    return size;
            }
        }
    }

    /** THE PAGE. */
    private static final class Page {
        final int[] codes = new int[MOST_LETTERS];
        int length;
    }

    /** Reads letters one by one, for as long as some MOBILE goes on like them. */
    private static final class Reader {
        private static final int LENGTH = 0, END = 1, BEHIND_ROD = 2, KIND = 3, SIZE = 4, BEHIND_THING = 5;

        final int[] lengths = new int[MOST_ARMS];
        final int[] ends = new int[MOST_ARMS];
        final int[] kinds = new int[MOST_THINGS];
        final int[] sizes = new int[MOST_THINGS];
        int lastTold;
        int places;
        private final boolean[] told = new boolean[MOST_RODS];
        private int next;
        private int arm;
        private int thing;

        /** How many letters from the first on a MOBILE can begin with. */
        int readLetters(Page page) {
            begin();
            for (int i = 0; i < page.length; i++) {
                if (!takes(page.codes[i])) {
                    return i;
                }
            }
            return page.length;
        }

        boolean isWhole() {
            return next == BEHIND_THING && thing == places;
        }

        private void begin() {
            next = LENGTH;
            arm = 0;
            thing = 0;
            places = 0;
            lastTold = 0;
            for (int rod = 0; rod < MOST_RODS; rod++) {
                told[rod] = rod == 0;
            }
        }

        private boolean takes(int code) {
            switch (next) {
                case LENGTH:
                    return takesLength(code);
                case END:
                    return takesEnd(code);
                case BEHIND_ROD:
                    return takesBehindRod(code);
                case KIND:
                    return takesKind(code);
                case SIZE:
                    return takesSize(code);
                default:
                    return takesBehindThing(code);
            }
        }

        private boolean takesLength(int code) {
            if (code < '1' || code > '9' || arm >= MOST_ARMS) {
                return false;
            }
            lengths[arm] = code - '0';
            next = END;
            return true;
        }

        private boolean takesEnd(int code) {
            int rod = arm / 2;
            if (code == '*' && places < MOST_THINGS) {
                ends[arm] = THING + places;
                places++;
            } else if (canTell(code - '0', rod)) {
                ends[arm] = code - '0';
                told[code - '0'] = true;
                lastTold = Math.max(lastTold, code - '0');
            } else {
                return false;
            }
            boolean isRight = arm % 2 == 1;
            arm++;
            next = isRight ? BEHIND_ROD : LENGTH;
            return !isRight || canFollow(rod + 1);
        }

        private boolean canTell(int number, int rod) {
            return number > rod && number < MOST_RODS && !told[number];
        }

        // If a later ROD is told, this one has to come ahead of it, and nothing more can tell it now.
        private boolean canFollow(int rod) {
            return rod > lastTold || told[rod];
        }

        private boolean takesBehindRod(int code) {
            boolean isLast = arm / 2 > lastTold;
            next = isLast ? KIND : LENGTH;
            return code == (isLast ? ';' : ',');
        }

        private boolean takesKind(int code) {
            int kind = Kinds.LETTERS.indexOf((char) code);
            if (kind < 0 || thing >= MOST_THINGS) {
                return false;
            }
            kinds[thing] = kind;
            next = SIZE;
            return true;
        }

        private boolean takesSize(int code) {
            if (code < '0' || code > '9' || thing >= MOST_THINGS) {
                return false;
            }
            sizes[thing] = code - '0';
            thing++;
            next = BEHIND_THING;
            return true;
        }

        private boolean takesBehindThing(int code) {
            next = KIND;
            return code == ',' && thing < places;
        }
    }

    /** THE MOBILE as it is: what an IMAGE keeps. Arm 2 times a ROD is its LEFT one, the next its RIGHT one. */
    private static final class Mobile {
        int rods;
        int things;
        int hours;
        final int[] lengths = new int[MOST_ARMS];
        final int[] ends = new int[MOST_ARMS];
        final int[] laid = new int[MOST_THINGS];
        final int[] kinds = new int[MOST_THINGS];
        final int[] sizes = new int[MOST_THINGS];
        final boolean[] thingCut = new boolean[MOST_THINGS];
        final boolean[] rodCut = new boolean[MOST_RODS];
        final Seen seen = new Seen();

        void hangAsRead(Reader reader) {
            rods = reader.lastTold + 1;
            things = reader.places;
            hours = 0;
            for (int arm = 0; arm < MOST_ARMS; arm++) {
                lengths[arm] = reader.lengths[arm];
                ends[arm] = reader.ends[arm];
            }
            for (int thing = 0; thing < MOST_THINGS; thing++) {
                laid[thing] = thing;
                kinds[thing] = reader.kinds[thing];
                sizes[thing] = reader.sizes[thing];
            }
            hangAllAgain();
            seen.entries = 0;
        }

        void copyFrom(Mobile other) {
            rods = other.rods;
            things = other.things;
            hours = other.hours;
            for (int arm = 0; arm < MOST_ARMS; arm++) {
                lengths[arm] = other.lengths[arm];
                ends[arm] = other.ends[arm];
            }
            for (int thing = 0; thing < MOST_THINGS; thing++) {
                laid[thing] = other.laid[thing];
                kinds[thing] = other.kinds[thing];
                sizes[thing] = other.sizes[thing];
                thingCut[thing] = other.thingCut[thing];
            }
            for (int rod = 0; rod < MOST_RODS; rod++) {
                rodCut[rod] = other.rodCut[rod];
            }
            seen.copyFrom(other.seen);
        }

        /** How much was CUT itself. */
        int hangAllAgain() {
            int were = 0;
            for (int thing = 0; thing < MOST_THINGS; thing++) {
                were += thingCut[thing] ? 1 : 0;
                thingCut[thing] = false;
            }
            for (int rod = 0; rod < MOST_RODS; rod++) {
                were += rodCut[rod] ? 1 : 0;
                rodCut[rod] = false;
            }
            return were;
        }

        int hangingFrom(int arm) {
            int end = ends[arm];
            return end < THING ? end : THING + laid[end - THING];
        }

        int armOf(int thing) {
            for (int arm = 0; arm < 2 * rods; arm++) {
                if (hangingFrom(arm) == THING + thing) {
                    return arm;
                }
            }
            return 0;
        }
    }

    /** What is SEEN, and what it says of a THING's SIZE. */
    private static final class Seen {
        private static final int LEFT = 0, LEVEL = 1, RIGHT = 2;

        int entries;
        private final int[] things = new int[MOST_SEEN];
        private final int[] rods = new int[MOST_SEEN];
        private final int[] beads = new int[MOST_SEEN];
        private final int[] hows = new int[MOST_SEEN];

        void add(int thing, int rod, int bead, int how) {
            if (entries >= MOST_SEEN) {
                return;
            }
            things[entries] = thing;
            rods[entries] = rod;
            beads[entries] = bead;
            hows[entries] = how;
            entries++;
        }

        void copyFrom(Seen other) {
            entries = other.entries;
            for (int i = 0; i < MOST_SEEN; i++) {
                things[i] = other.things[i];
                rods[i] = other.rods[i];
                beads[i] = other.beads[i];
                hows[i] = other.hows[i];
            }
        }

        int sizesOf(Mobile mobile, int thing) {
            int sizes = (1 << SIZES) - 1;
            for (int i = 0; i < entries; i++) {
                if (things[i] == thing) {
                    sizes &= sizesTilting(mobile, thing, rods[i], beads[i], hows[i]);
                }
            }
            return sizes;
        }

        int beadToTry(Mobile mobile, int thing, int rod) {
            int sizes = sizesOf(mobile, thing);
            if (sizes == 0) {
                return NONE;
            }
            int tried = 0;
            int fewest = SIZES + 1;
            for (int bead = 0; bead < SIZES; bead++) {
                int worst = 0;
                for (int how = LEFT; how <= RIGHT; how++) {
                    int remaining = sizes & sizesTilting(mobile, thing, rod, bead, how);
                    worst = Math.max(worst, Integer.bitCount(remaining));
                }
                if (worst < fewest) {
                    fewest = worst;
                    tried = bead;
                }
            }
            return tried;
        }

        /** The SIZES, as bits, with which the THING makes the ROD TILT this way against the bead. */
        private static int sizesTilting(Mobile mobile, int thing, int rod, int bead, int how) {
            int sizes = 0;
            int right = bead * mobile.lengths[2 * rod + 1];
            for (int size = 0; size < SIZES; size++) {
                int weight = Kinds.weight(mobile.kinds[thing], size, mobile.hours);
                int tilt = right - weight * mobile.lengths[2 * rod];
                if (wayOf(tilt) == how) {
                    sizes |= 1 << size;
                }
            }
            return sizes;
        }

        private static int wayOf(int tilt) {
            if (tilt == 0) {
                return LEVEL;
            }
            return tilt < 0 ? LEFT : RIGHT;
        }
    }

    /** What hangs from each arm, which RODS are there, and how each TILTS. */
    private static final class Scale {
        final int[] loads = new int[MOST_ARMS];
        final int[] tilts = new int[MOST_RODS];
        final boolean[] there = new boolean[MOST_RODS];
        private final int[] weights = new int[MOST_THINGS];

        /** The MOBILE as it is. */
        void weigh(Mobile mobile) {
            prepare(mobile, mobile.hours);
            hang(mobile, mobile.laid);
        }

        /** What stays the same however the THINGS are laid. */
        void prepare(Mobile mobile, int hours) {
            for (int thing = 0; thing < mobile.things; thing++) {
                int weight = Kinds.weight(mobile.kinds[thing], mobile.sizes[thing], hours);
                weights[thing] = mobile.thingCut[thing] ? 0 : weight;
            }
            there[0] = true;
            for (int arm = 0; arm < 2 * mobile.rods; arm++) {
                int end = mobile.ends[arm];
                if (end < THING) {
                    there[end] = there[arm / 2] && !mobile.rodCut[end];
                }
            }
        }

        // From the last ROD to the first: what hangs from a ROD has a greater number.
        void hang(Mobile mobile, int[] laid) {
            for (int rod = mobile.rods - 1; rod >= 0; rod--) {
                hangRod(mobile, laid, rod);
            }
        }

        /** Whether all RODS that are there are LEVEL; hangs no more of them than it takes to know. */
        boolean hangsLevel(Mobile mobile, int[] laid) {
            for (int rod = mobile.rods - 1; rod >= 0; rod--) {
                hangRod(mobile, laid, rod);
                if (there[rod] && tilts[rod] != 0) {
                    return false;
                }
            }
            return true;
        }

        private void hangRod(Mobile mobile, int[] laid, int rod) {
            int left = 2 * rod;
            int right = left + 1;
            loads[left] = loadOf(mobile, laid, left);
            loads[right] = loadOf(mobile, laid, right);
            tilts[rod] = loads[right] * mobile.lengths[right] - loads[left] * mobile.lengths[left];
        }

        private int loadOf(Mobile mobile, int[] laid, int arm) {
            int end = mobile.ends[arm];
            if (end >= THING) {
                return weights[laid[end - THING]];
            }
            return mobile.rodCut[end] ? 0 : loads[2 * end] + loads[2 * end + 1];
        }

        int rodsThere(Mobile mobile) {
            int number = 0;
            for (int rod = 0; rod < mobile.rods; rod++) {
                number += there[rod] ? 1 : 0;
            }
            return number;
        }

        int rodsLevel(Mobile mobile) {
            int number = 0;
            for (int rod = 0; rod < mobile.rods; rod++) {
                number += there[rod] && tilts[rod] == 0 ? 1 : 0;
            }
            return number;
        }

        int thingsThere(Mobile mobile) {
            int number = 0;
            for (int thing = 0; thing < mobile.things; thing++) {
                boolean isThere = !mobile.thingCut[thing] && there[mobile.armOf(thing) / 2];
                number += isThere ? 1 : 0;
            }
            return number;
        }

        int tiltTogether(Mobile mobile) {
            int sum = 0;
            for (int rod = 0; rod < mobile.rods; rod++) {
                sum += there[rod] ? Math.abs(tilts[rod]) : 0;
            }
            return sum;
        }

        int hookFor(Mobile mobile, int rod) {
            int both = mobile.lengths[2 * rod] + mobile.lengths[2 * rod + 1];
            for (int left = 1; left < both; left++) {
                if (loads[2 * rod] * left == loads[2 * rod + 1] * (both - left)) {
                    return left;
                }
            }
            return NONE;
        }

        int beadToAdd(Mobile mobile, int rod) {
            if (tilts[rod] == 0) {
                return 0;
            }
            for (int size = 1; size <= MOST_ADDED; size++) {
                if (tilts[rod] + size * mobile.lengths[2 * rod + 1] == 0) {
                    return size;
                }
                if (tilts[rod] - size * mobile.lengths[2 * rod] == 0) {
                    return -size;
                }
            }
            return FAR;
        }
    }

    /** Other ways to lay the THINGS that are not CUT on the PLACES of such ones. */
    private static final class Layings {
        int mostLevel;
        int leastTilt;
        final int[] bestLaid = new int[MOST_THINGS];
        int oddsAbove;
        int oddsBelow;
        private final Scale scale = new Scale();
        private final int[] laid = new int[MOST_THINGS];
        private final int[] places = new int[MOST_THINGS];
        private final int[] order = new int[MOST_THINGS];
        private int uncut;
        private int orders;

        int bestExchange(Mobile mobile) {
            scale.weigh(mobile);
            int most = scale.rodsLevel(mobile);
            int found = NONE;
            copyLaid(mobile);
            for (int one = 0; one < mobile.things; one++) {
                for (int other = one + 1; other < mobile.things; other++) {
                    int level = levelIfSwapped(mobile, one, other);
                    if (level > most) {
                        most = level;
                        found = 10 * one + other;
                    }
                }
            }
            return found;
        }

        private int levelIfSwapped(Mobile mobile, int one, int other) {
            if (mobile.thingCut[one] || mobile.thingCut[other]) {
                return NONE;
            }
            swapThings(laid, one, other);
            scale.hang(mobile, laid);
            swapThings(laid, one, other);
            return scale.rodsLevel(mobile);
        }

        void findBestLaying(Mobile mobile) {
            beginOrders(mobile);
            mostLevel = NONE;
            for (int i = 0; i < orders; i++) {
                layInOrder();
                scale.hang(mobile, laid);
                keepIfBetter(scale.rodsLevel(mobile), scale.tiltTogether(mobile));
                nextOrder();
            }
        }

        // Orders come by numbers, so of like ones the first is the one to keep.
        private void keepIfBetter(int level, int tilt) {
            if (level < mostLevel || (level == mostLevel && tilt >= leastTilt)) {
                return;
            }
            mostLevel = level;
            leastTilt = tilt;
            for (int place = 0; place < MOST_THINGS; place++) {
                bestLaid[place] = NONE;
            }
            for (int i = 0; i < uncut; i++) {
                bestLaid[places[i]] = order[i];
            }
        }

        void findOdds(Mobile mobile) {
            beginOrders(mobile);
            int level = 0;
            for (int i = 0; i < orders; i++) {
                layInOrder();
                level += scale.hangsLevel(mobile, laid) ? 1 : 0;
                nextOrder();
            }
            int common = greatestDivisor(level, orders);
            oddsAbove = level / common;
            oddsBelow = orders / common;
        }

        private void beginOrders(Mobile mobile) {
            scale.prepare(mobile, mobile.hours);
            copyLaid(mobile);
            uncut = 0;
            orders = 1;
            for (int place = 0; place < mobile.things; place++) {
                if (!mobile.thingCut[laid[place]]) {
                    places[uncut] = place;
                    uncut++;
                    orders *= uncut;
                }
            }
            int next = 0;
            for (int thing = 0; thing < mobile.things && next < uncut; thing++) {
                if (!mobile.thingCut[thing]) {
                    order[next] = thing;
                    next++;
                }
            }
        }

        private void copyLaid(Mobile mobile) {
            for (int place = 0; place < MOST_THINGS; place++) {
                laid[place] = mobile.laid[place];
            }
        }

        private void layInOrder() {
            for (int i = 0; i < uncut; i++) {
                laid[places[i]] = order[i];
            }
        }

        /** The next order by numbers; behind the last one nothing changes. */
        private void nextOrder() {
            int rise = uncut - 2;
            while (rise >= 0 && order[rise] > order[rise + 1]) {
                rise--;
            }
            if (rise < 0) {
                return;
            }
            int greater = uncut - 1;
            while (greater > rise && order[greater] < order[rise]) {
                greater--;
            }
            swapAt(rise, greater);
            int last = uncut - 1;
            for (int first = rise + 1; first < last; first++) {
                swapAt(first, last);
                last--;
            }
        }

        private void swapAt(int i, int j) {
            int was = order[i];
            order[i] = order[j];
            order[j] = was;
        }

        private static int greatestDivisor(int part, int whole) {
            for (int divisor = whole; divisor > 1; divisor--) {
                if (part % divisor == 0 && whole % divisor == 0) {
                    return divisor;
                }
            }
            return 1;
        }
    }

    /** HOURS to come, as they would be. */
    private static final class Evenings {
        int level;
        int tilt;
        int seed;
        private final Scale scale = new Scale();
        private final int[] laid = new int[MOST_THINGS];

        int hoursUntilLevel(Mobile mobile) {
            for (int later = 0; later <= EVEN_HOURS; later++) {
                scale.prepare(mobile, mobile.hours + later);
                if (scale.hangsLevel(mobile, mobile.laid)) {
                    return later;
                }
            }
            return NONE;
        }

        void pass(Mobile mobile, int times, int firstSeed) {
            seed = firstSeed;
            level = 0;
            for (int place = 0; place < MOST_THINGS; place++) {
                laid[place] = mobile.laid[place];
            }
            for (int evening = 1; evening <= times; evening++) {
                int one = draw(mobile.things);
                int other = draw(mobile.things);
                if (one != other && !mobile.thingCut[one] && !mobile.thingCut[other]) {
                    swapThings(laid, one, other);
                }
                scale.prepare(mobile, mobile.hours + evening);
                scale.hang(mobile, laid);
                level += scale.rodsLevel(mobile);
            }
            tilt = scale.tilts[0];
        }

        private int draw(int number) {
            seed = (int) ((1103515245L * seed + 12345L) & 0x7FFFFFFFL);
            return number > 0 ? seed / 65536 % number : 0;
        }
    }
}
