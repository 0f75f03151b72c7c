import java.util.function.Supplier;
import java.util.function.ToIntFunction;

/**
 * Refusals: of several that fit, the first as told by the call; just inside what is told there is none; and they
 * change nothing: the digest and all later answers are those of a twin that was not asked.
 */
public final class RefusalTest {
    private static final int UNKNOWN = HungMobile.UNKNOWN, OUTSIDE = HungMobile.OUTSIDE, STATE = HungMobile.STATE,
            FULL = HungMobile.FULL;
    private static final int LEAST = Integer.MIN_VALUE, MOST = Integer.MAX_VALUE;

    /** Three RODS, four THINGS, one of each cut, an IMAGE from before, two SEEN, half a MOBILE on THE PAGE. */
    private static final int RODS = 3, THINGS = 4, CUT_THING = 0, CUT_ROD = 1;

    public static void main(String[] args) {
        letter();
        mobile();
        rod();
        thing();
        as();
        hour();
        exchange();
        move();
        cut();
        drop();
        change();
        bestAndEven();
        lay();
        odds();
        see();
        trial();
        evenings();
        imageAndRestore();
        count();
        questionsChangeNothing();
        Due.end();
    }

    private static HungMobile none() {
        return new HungMobile();
    }

    private static HungMobile noneWith(String letters) {
        HungMobile x = new HungMobile();
        Due.write(x, letters);
        return x;
    }

    private static HungMobile fullPage() {
        return noneWith("1*11,1*12,1*13,1*14,1*1*;b1,b2,b3,b4,b5,b6,b7,");
    }

    private static HungMobile used() {
        HungMobile x = Due.hung("2112,1*2*,3*1*;b2,l1,o3,d4");
        x.hour();
        x.move(0, 1);
        x.image();
        x.hour();
        x.exchange(1, 2);
        x.move(2, 2);
        x.change(3, 4, 9);
        x.cut(CUT_THING);
        x.drop(CUT_ROD);
        x.see(1, 0, 5, 0);
        x.see(3, 2, 1, 2);
        x.lay(0);
        Due.write(x, "3*4*;b1,");
        return x;
    }

    private static HungMobile seenSix() {
        HungMobile x = used();
        for (int i = 3; i <= 6; i++) {
            Due.is("see", x.see(2, 1, i, 1), i);
        }
        return x;
    }

    private static HungMobile laidTwenty() {
        HungMobile x = used();
        for (int i = 2; i <= 20; i++) {
            x.lay(11);
        }
        Due.is("lay() was done", x.count(10), 20);
        return x;
    }

    /** More calls than the document speaks of: its 999 HOURS cannot be reached with fewer. */
    private static HungMobile hours(int many) {
        HungMobile x = Due.hung("1*2*;d9,b3");
        for (int hour = 1; hour <= many; hour++) {
            Due.is("hour", x.hour(), hour);
        }
        return x;
    }

    private static HungMobile anotherSince() {
        HungMobile x = used();
        x.blank();
        Due.write(x, "1*11,1*1*;b4,b2,b2");
        Due.is("another one", x.mobile(), 3);
        return x;
    }

    /** The numbers next to those from least to most on both sides, and the farthest ones. */
    private static int[] beside(int least, int most) {
        return new int[] {LEAST, least - 1, most + 1, MOST};
    }

    private static int[] besideAnd(int least, int most) {
        return new int[] {LEAST, least - 1, least, most, most + 1, MOST};
    }

    private static void refused(String call, Supplier<HungMobile> state, ToIntFunction<HungMobile> asked, int due) {
        for (int way = 0; way < Later.WAYS; way++) {
            HungMobile x = state.get();
            HungMobile twin = state.get();
            long before = x.digest();
            Due.is(call, asked.applyAsInt(x), due);
            Due.is("digest behind " + call, x.digest(), before);
            Due.is("digest of its twin", twin.digest(), before);
            Due.holds("later, way " + way + ", behind " + call, Later.tells(x, way).equals(Later.tells(twin, way)));
        }
    }

    private static void taken(String call, int answer) {
        Due.holds(call + " is taken, answered " + answer, answer > UNKNOWN);
    }

    private static void letter() {
        for (int code : beside(1, 126)) {
            refused("letter " + code + " on an empty page", RefusalTest::none, x -> x.letter(code), OUTSIDE);
            refused("letter " + code, RefusalTest::used, x -> x.letter(code), OUTSIDE);
            refused("letter " + code + " on a full page", RefusalTest::fullPage, x -> x.letter(code), OUTSIDE);
        }
        for (int code : new int[] {1, '*', '7', 126}) {
            taken("letter " + code, none().letter(code));
            refused("letter " + code + " on a full page", RefusalTest::fullPage, x -> x.letter(code), FULL);
        }
    }

    private static void mobile() {
        refused("mobile of nothing", RefusalTest::none, x -> x.mobile(), STATE);
        refused("mobile of a part", RefusalTest::used, x -> x.mobile(), STATE);
        refused("mobile of a full page", RefusalTest::fullPage, x -> x.mobile(), STATE);
        refused("mobile of nothing, behind another one", RefusalTest::anotherSince, x -> x.mobile(), STATE);
        String whole = "1*11,1*1*;b1,b2,b3";
        for (int letters = 0; letters < whole.length(); letters++) {
            String part = whole.substring(0, letters);
            refused("mobile of " + part, () -> noneWith(part), x -> x.mobile(), STATE);
        }
        taken("mobile of " + whole, noneWith(whole).mobile());
        for (String more : new String[] {",", ";", "b", "0", "*", ",b4", "~"}) {
            refused("mobile of " + whole + more, () -> noneWith(whole + more), x -> x.mobile(), STATE);
        }
    }

    private static void rod() {
        for (int what : besideAnd(0, 10)) {
            refused("rod of no mobile", RefusalTest::none, x -> x.rod(0, what), UNKNOWN);
            for (int rod : beside(0, RODS - 1)) {
                refused("rod " + rod + ", " + what, RefusalTest::used, x -> x.rod(rod, what), UNKNOWN);
            }
        }
        for (int rod = 0; rod < RODS; rod++) {
            int one = rod;
            for (int what : beside(0, 10)) {
                refused("rod " + rod + ", " + what, RefusalTest::used, x -> x.rod(one, what), OUTSIDE);
            }
            taken("rod " + rod + ", 0", used().rod(rod, 0));
            taken("rod " + rod + ", 10", used().rod(rod, 10));
        }
    }

    private static void thing() {
        for (int what : besideAnd(0, 6)) {
            refused("thing of no mobile", RefusalTest::none, x -> x.thing(0, what), UNKNOWN);
            for (int thing : beside(0, THINGS - 1)) {
                refused("thing " + thing + ", " + what, RefusalTest::used, x -> x.thing(thing, what), UNKNOWN);
            }
        }
        for (int thing = 0; thing < THINGS; thing++) {
            int one = thing;
            for (int what : beside(0, 6)) {
                refused("thing " + thing + ", " + what, RefusalTest::used, x -> x.thing(one, what), OUTSIDE);
            }
            taken("thing " + thing + ", 0", used().thing(thing, 0));
            taken("thing " + thing + ", 6", used().thing(thing, 6));
        }
    }

    private static void as() {
        for (int kind : besideAnd(0, 4)) {
            refused("as of no mobile", RefusalTest::none, x -> x.as(0, kind), UNKNOWN);
            for (int thing : beside(0, THINGS - 1)) {
                refused("thing " + thing + " as " + kind, RefusalTest::used, x -> x.as(thing, kind), UNKNOWN);
            }
        }
        for (int kind : beside(0, 4)) {
            refused("thing 0 as " + kind, RefusalTest::used, x -> x.as(0, kind), OUTSIDE);
            refused("thing 3 as " + kind, RefusalTest::used, x -> x.as(3, kind), OUTSIDE);
        }
        Due.is("thing 3 as a drop", used().as(3, 4), 3);
        Due.is("thing 0 as a bead, though cut", used().as(0, 0), 0);
    }

    private static void hour() {
        refused("hour of no mobile", RefusalTest::none, x -> x.hour(), STATE);
        refused("hour of a page that is not read", () -> noneWith("1*1*;b1,b1"), x -> x.hour(), STATE);
        refused("hour behind 999", () -> hours(999), x -> x.hour(), FULL);
        Due.is("hour behind 998", hours(998).hour(), 999);
    }

    private static void exchange() {
        refused("exchange of no mobile", RefusalTest::none, x -> x.exchange(0, 1), UNKNOWN);
        refused("exchange of no mobile, the same", RefusalTest::none, x -> x.exchange(0, 0), UNKNOWN);
        for (int wrong : beside(0, THINGS - 1)) {
            for (int thing = 0; thing < THINGS; thing++) {
                int one = thing;
                refused("exchange " + one + " and " + wrong, RefusalTest::used, x -> x.exchange(one, wrong), UNKNOWN);
                refused("exchange " + wrong + " and " + one, RefusalTest::used, x -> x.exchange(wrong, one), UNKNOWN);
            }
            for (int other : beside(0, THINGS - 1)) {
                refused("exchange " + wrong + " and " + other, RefusalTest::used, x -> x.exchange(wrong, other), UNKNOWN);
            }
        }
        for (int thing = 0; thing < THINGS; thing++) {
            int one = thing;
            refused("exchange the same, " + one, RefusalTest::used, x -> x.exchange(one, one), UNKNOWN);
            if (one != CUT_THING) {
                refused("exchange a cut one and " + one, RefusalTest::used, x -> x.exchange(CUT_THING, one), STATE);
                refused("exchange " + one + " and a cut one", RefusalTest::used, x -> x.exchange(one, CUT_THING), STATE);
                taken("exchange of what is not cut", used().exchange(one, one == 1 ? 2 : 1));
            }
        }
        refused("exchange two that are cut", RefusalTest::twoCut, x -> x.exchange(3, CUT_THING), STATE);
    }

    private static HungMobile twoCut() {
        HungMobile x = used();
        x.cut(3);
        return x;
    }

    private static void move() {
        for (int left : new int[] {LEAST, 0, 1, 4, 5, MOST}) {
            refused("move of no mobile", RefusalTest::none, x -> x.move(0, left), UNKNOWN);
            for (int rod : beside(0, RODS - 1)) {
                refused("move " + rod + " to " + left, RefusalTest::used, x -> x.move(rod, left), UNKNOWN);
            }
        }
        int[] both = {3, 3, 4};
        for (int rod = 0; rod < RODS; rod++) {
            int one = rod;
            for (int left : beside(1, both[rod] - 1)) {
                refused("move " + rod + " to " + left, RefusalTest::used, x -> x.move(one, left), OUTSIDE);
            }
            taken("move to 1", used().move(rod, 1));
            taken("move to " + (both[rod] - 1), used().move(rod, both[rod] - 1));
        }
    }

    private static void cut() {
        refused("cut of no mobile", RefusalTest::none, x -> x.cut(0), UNKNOWN);
        for (int thing : beside(0, THINGS - 1)) {
            refused("cut " + thing, RefusalTest::used, x -> x.cut(thing), UNKNOWN);
        }
        refused("cut what is", RefusalTest::used, x -> x.cut(CUT_THING), STATE);
        for (int thing = 1; thing < THINGS; thing++) {
            taken("cut " + thing, used().cut(thing));
        }
    }

    private static void drop() {
        refused("drop of no mobile", RefusalTest::none, x -> x.drop(1), UNKNOWN);
        refused("drop rod 0 of no mobile", RefusalTest::none, x -> x.drop(0), UNKNOWN);
        for (int rod : beside(1, RODS - 1)) {
            refused("drop " + rod, RefusalTest::used, x -> x.drop(rod), UNKNOWN);
        }
        refused("drop -1", RefusalTest::used, x -> x.drop(-1), UNKNOWN);
        refused("drop what is", RefusalTest::used, x -> x.drop(CUT_ROD), STATE);
        taken("drop 2", used().drop(2));
    }

    private static void change() {
        for (int number : besideAnd(0, 4)) {
            refused("change of no mobile", RefusalTest::none, x -> x.change(0, number, number), UNKNOWN);
            for (int thing : beside(0, THINGS - 1)) {
                refused("change " + thing, RefusalTest::used, x -> x.change(thing, number, 0), UNKNOWN);
                refused("change " + thing, RefusalTest::used, x -> x.change(thing, 0, number), UNKNOWN);
            }
        }
        for (int kind : beside(0, 4)) {
            refused("change to kind " + kind, RefusalTest::used, x -> x.change(1, kind, 5), OUTSIDE);
            for (int size : beside(0, 9)) {
                refused("change to " + kind + ", " + size, RefusalTest::used, x -> x.change(3, kind, size), OUTSIDE);
            }
        }
        for (int size : beside(0, 9)) {
            refused("change to size " + size, RefusalTest::used, x -> x.change(1, 2, size), OUTSIDE);
            refused("change a cut one to size " + size, RefusalTest::used, x -> x.change(CUT_THING, 2, size), OUTSIDE);
        }
        for (int kind = 0; kind <= 4; kind++) {
            Due.is("change to kind " + kind + " of size 0", used().change(3, kind, 0), 4);
            Due.is("change to kind " + kind + " of size 9", used().change(3, kind, 9), 4);
        }
    }

    private static void bestAndEven() {
        refused("best of no mobile", RefusalTest::none, x -> x.best(), STATE);
        refused("even of no mobile", RefusalTest::none, x -> x.even(), STATE);
        refused("best of a page that is not read", () -> noneWith("1*1*;b1,b1"), x -> x.best(), STATE);
        refused("even of a page that is not read", () -> noneWith("1*1*;b1,b1"), x -> x.even(), STATE);
    }

    private static void lay() {
        for (int what : new int[] {LEAST, -1, 2, 9, 16, MOST}) {
            refused("lay " + what + " of no mobile", RefusalTest::none, x -> x.lay(what), OUTSIDE);
            refused("lay " + what, RefusalTest::used, x -> x.lay(what), OUTSIDE);
            refused("lay " + what + " behind 20", RefusalTest::laidTwenty, x -> x.lay(what), OUTSIDE);
        }
        for (int what : new int[] {0, 1, 10, 15}) {
            refused("lay " + what + " of no mobile", RefusalTest::none, x -> x.lay(what), STATE);
            refused("lay " + what + " behind 20", RefusalTest::laidTwenty, x -> x.lay(what), STATE);
            taken("lay " + what, used().lay(what));
        }
        HungMobile x = used();
        for (int times = 2; times <= 20; times++) {
            taken("lay number " + times, x.lay(0));
        }
        Due.is("lay number 21", x.lay(0), STATE);
    }

    private static void odds() {
        for (int what : beside(0, 1)) {
            refused("odds " + what + " of no mobile", RefusalTest::none, x -> x.odds(what), OUTSIDE);
            refused("odds " + what, RefusalTest::used, x -> x.odds(what), OUTSIDE);
        }
        for (int what = 0; what <= 1; what++) {
            int one = what;
            refused("odds " + what + " of no mobile", RefusalTest::none, x -> x.odds(one), STATE);
            taken("odds " + what, used().odds(what));
        }
    }

    private static void see() {
        for (int bead : besideAnd(0, 9)) {
            for (int how : besideAnd(0, 2)) {
                refused("see of no mobile", RefusalTest::none, x -> x.see(0, 0, bead, how), UNKNOWN);
                seeUnknown(bead, how);
                if (bead < 0 || bead > 9 || how < 0 || how > 2) {
                    refused("see " + bead + ", " + how, RefusalTest::used, x -> x.see(1, 1, bead, how), OUTSIDE);
                    refused("see " + bead + ", " + how + " behind 6", RefusalTest::seenSix, x -> x.see(1, 1, bead, how), OUTSIDE);
                } else {
                    Due.is("see " + bead + ", " + how, used().see(3, 2, bead, how), 3);
                    refused("see " + bead + ", " + how + " behind 6", RefusalTest::seenSix, x -> x.see(3, 2, bead, how), FULL);
                }
            }
        }
    }

    private static void seeUnknown(int bead, int how) {
        for (int thing : beside(0, THINGS - 1)) {
            refused("see thing " + thing, RefusalTest::used, x -> x.see(thing, 0, bead, how), UNKNOWN);
            refused("see thing " + thing + " behind 6", RefusalTest::seenSix, x -> x.see(thing, 0, bead, how), UNKNOWN);
        }
        for (int rod : beside(0, RODS - 1)) {
            refused("see rod " + rod, RefusalTest::used, x -> x.see(0, rod, bead, how), UNKNOWN);
            refused("see rod " + rod + " behind 6", RefusalTest::seenSix, x -> x.see(0, rod, bead, how), UNKNOWN);
        }
    }

    private static void trial() {
        refused("trial of no mobile", RefusalTest::none, x -> x.trial(0, 0), UNKNOWN);
        for (int thing : beside(0, THINGS - 1)) {
            refused("trial " + thing + ", 0", RefusalTest::used, x -> x.trial(thing, 0), UNKNOWN);
            for (int rod : beside(0, RODS - 1)) {
                refused("trial " + thing + ", " + rod, RefusalTest::used, x -> x.trial(thing, rod), UNKNOWN);
            }
        }
        for (int rod : beside(0, RODS - 1)) {
            refused("trial 0, " + rod, RefusalTest::used, x -> x.trial(0, rod), UNKNOWN);
        }
        taken("trial 0, 0", used().trial(0, 0));
        taken("trial 3, 2", used().trial(THINGS - 1, RODS - 1));
    }

    private static void evenings() {
        for (int times : besideAnd(1, 60)) {
            for (int seed : new int[] {LEAST, -1, 0, MOST}) {
                for (int what : besideAnd(0, 2)) {
                    boolean isTold = times >= 1 && times <= 60 && seed >= 0 && what >= 0 && what <= 2;
                    String call = "evenings " + times + ", " + seed + ", " + what;
                    ToIntFunction<HungMobile> asked = x -> x.evenings(times, seed, what);
                    refused(call + " of no mobile", RefusalTest::none, asked, isTold ? STATE : OUTSIDE);
                    if (isTold) {
                        taken(call, asked.applyAsInt(used()));
                    } else {
                        refused(call, RefusalTest::used, asked, OUTSIDE);
                    }
                }
            }
        }
    }

    private static void imageAndRestore() {
        refused("image of no mobile", RefusalTest::none, x -> x.image(), STATE);
        refused("image of a page that is not read", () -> noneWith("1*1*;b1,b1"), x -> x.image(), STATE);
        refused("restore of no mobile", RefusalTest::none, x -> x.restore(), STATE);
        refused("restore, none was kept", () -> Due.hung("1*1*;b1,b1"), x -> x.restore(), STATE);
        refused("restore, another one since", RefusalTest::anotherSince, x -> x.restore(), STATE);
        Due.is("image", used().image(), 2);
        Due.is("restore", used().restore(), 1);
    }

    private static void count() {
        for (int what : beside(0, 10)) {
            refused("count " + what + " of no mobile", RefusalTest::none, x -> x.count(what), OUTSIDE);
            refused("count " + what, RefusalTest::used, x -> x.count(what), OUTSIDE);
        }
        taken("count 0", none().count(0));
        taken("count 10", none().count(10));
    }

    /** No refusals, but they too only tell: as if they had not been asked. */
    private static void questionsChangeNothing() {
        unchanged("fault", x -> x.fault());
        for (int what = 0; what <= 10; what++) {
            int one = what;
            unchanged("rod " + what, x -> x.rod(1, one));
            unchanged("count " + what, x -> x.count(one));
        }
        for (int what = 0; what <= 6; what++) {
            int one = what;
            unchanged("thing " + what, x -> x.thing(3, one));
        }
        unchanged("as", x -> x.as(3, 1));
        unchanged("best", x -> x.best());
        unchanged("even", x -> x.even());
        unchanged("odds", x -> x.odds(0));
        unchanged("trial", x -> x.trial(3, 2));
        unchanged("evenings", x -> x.evenings(60, MOST, 1));
    }

    private static void unchanged(String call, ToIntFunction<HungMobile> asked) {
        refused(call, RefusalTest::used, asked, asked.applyAsInt(used()));
    }
}
