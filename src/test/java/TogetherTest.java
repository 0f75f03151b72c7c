import java.util.ArrayList;
import java.util.Arrays;
import java.util.LinkedHashMap;
import java.util.List;
import java.util.Map;
import java.util.function.ToIntFunction;

/**
 * Where one promise rests on another: what an IMAGE keeps, what another MOBILE leaves behind, what a digest takes,
 * and what is told that would be, each against what the other calls do and tell.
 */
public final class TogetherTest {
    private static final int NONE = HungMobile.NONE, STATE = HungMobile.STATE, FAR = HungMobile.FAR, TOLD = HungMobile.TOLD;

    private static final Map<String, ToIntFunction<HungMobile>> KEPT = new LinkedHashMap<>();
    private static final Map<String, ToIntFunction<HungMobile>> NOT_KEPT = new LinkedHashMap<>();

    static {
        KEPT.put("hour", x -> x.hour());
        KEPT.put("exchange on one rod", x -> x.exchange(0, 1));
        KEPT.put("exchange across", x -> x.exchange(1, 3));
        KEPT.put("move to the left", x -> x.move(2, 1));
        KEPT.put("move to the right", x -> x.move(0, 2));
        KEPT.put("cut a thing", x -> x.cut(3));
        KEPT.put("cut a thing on a cut rod", x -> x.cut(1));
        KEPT.put("drop", x -> x.drop(2));
        KEPT.put("mend", x -> x.mend());
        KEPT.put("change the kind", x -> x.change(2, 0, 3));
        KEPT.put("change the size", x -> x.change(2, 3, 4));
        KEPT.put("see", x -> x.see(2, 1, 3, 2));
        KEPT.put("see the same", x -> x.see(3, 2, 1, 2));
        KEPT.put("forget", x -> x.forget());
        NOT_KEPT.put("letter", x -> x.letter('b'));
        NOT_KEPT.put("blank", x -> x.blank());
        NOT_KEPT.put("lay", x -> x.lay(10));
        NOT_KEPT.put("mobile of none", x -> x.mobile());
    }

    public static void main(String[] args) {
        imageAgainstEach();
        imageAgainstChance();
        imageStandsAlone();
        imageAgainstAnotherMobile();
        anotherMobileAgainstEach();
        anotherMobileAgainstChance();
        digestInOrder();
        eachNumberIsInTheDigest();
        whatIsDoneIsTold();
        whatIsTogether();
        whatWouldBeIs();
        whatIsSeenIsSo();
        Due.end();
    }

    /** Three RODS, four THINGS, some of all that an IMAGE keeps; a letter on THE PAGE, lay() done once. */
    private static HungMobile used() {
        HungMobile x = Due.hung("2112,1*2*,3*1*;b2,l1,o3,d4");
        x.hour();
        x.move(0, 1);
        x.exchange(0, 2);
        x.change(3, 4, 9);
        x.cut(0);
        x.drop(1);
        x.see(1, 0, 5, 0);
        x.see(3, 2, 1, 2);
        x.lay(0);
        x.letter('3');
        return x;
    }

    private static void read(HungMobile x, String text) {
        x.blank();
        Due.write(x, text);
        Due.holds("mobile " + text, x.mobile() > 1);
    }

    private static void alike(String what, HungMobile x, HungMobile twin, int way) {
        Due.holds(what + ", way " + way, Later.tells(x, way).equals(Later.tells(twin, way)));
    }

    // "An IMAGE keeps arms, KINDS, SIZES, which THING is where, what is CUT, HOURS, SEEN.": each two that can be done
    private static void imageAgainstEach() {
        Map<String, ToIntFunction<HungMobile>> all = new LinkedHashMap<>(KEPT);
        all.putAll(NOT_KEPT);
        int pair = 0;
        for (String first : all.keySet()) {
            for (String second : all.keySet()) {
                pair++;
                HungMobile x = used();
                HungMobile twin = used();
                x.image();
                twin.image();
                for (String done : List.of(first, second)) {
                    all.get(done).applyAsInt(x);
                    if (NOT_KEPT.containsKey(done)) {
                        NOT_KEPT.get(done).applyAsInt(twin);
                    }
                }
                Due.is("restore", x.restore(), 1);
                Due.is("digest behind " + first + ", " + second, x.digest(), twin.digest());
                alike("behind " + first + ", " + second, x, twin, pair % Later.WAYS);
            }
        }
    }

    private static void imageAgainstChance() {
        for (int seed = 1; seed <= 300; seed++) {
            Chance chance = new Chance(seed);
            HungMobile x = Due.hung(chance.mobile());
            for (int i = chance.below(20); i > 0; i--) {
                chance.act(x);
            }
            int hours = x.count(5);
            long before = x.digest();
            Due.is("image", x.image(), hours);
            for (int turn = 0; turn < 2; turn++) {
                for (int i = chance.below(30); i > 0; i--) {
                    chance.act(x);
                }
                Due.is("restore", x.restore(), hours);
                Due.is("as it was, seed " + seed, x.digest(), before);
            }
        }
    }

    // "(one; the latest)": what is done behind image() or restore() is not done to what is kept
    private static void imageStandsAlone() {
        for (Map.Entry<String, ToIntFunction<HungMobile>> each : KEPT.entrySet()) {
            HungMobile x = used();
            x.image();
            long first = x.digest();
            each.getValue().applyAsInt(x);
            long second = x.digest();
            x.restore();
            each.getValue().applyAsInt(x);
            Due.is(each.getKey() + " does the same again", x.digest(), second);
            x.restore();
            Due.is("the image is as it was behind " + each.getKey(), x.digest(), first);
            each.getValue().applyAsInt(x);
            x.image();
            x.mend();
            x.forget();
            x.hour();
            x.move(0, 2);
            x.restore();
            Due.is("the latest is behind " + each.getKey(), x.digest(), second);
        }
    }

    // "STATE: none was kept, or there is another MOBILE since."
    private static void imageAgainstAnotherMobile() {
        for (String text : List.of("1*1*;b1,b1", "2112,1*2*,3*1*;b2,l1,o3,d4", "1*11,1*12,1*13,1*14,1*1*;b1,b2,b3,b4,b5,b6")) {
            HungMobile x = used();
            HungMobile twin = used();
            x.image();
            read(x, text);
            read(twin, text);
            long before = x.digest();
            Due.is("there is another one since", x.restore(), STATE);
            Due.is("nothing is otherwise", x.digest(), before);
            Due.is("nor than without an image", twin.digest(), before);
            Due.is("an image of this one", x.image(), 0);
            x.hour();
            Due.is("an image of this one", x.restore(), 0);
            Due.is("an image of this one", x.digest(), before);
        }
    }

    // "(another one is gone, with all that was)": but for how often was read and laid, all is as on a new object
    private static void anotherMobileAgainstEach() {
        for (String text : List.of("1*1*;b1,d1", "2112,1*2*,3*1*;b2,l1,o3,d4", "1*21,1*12,1*13,2*14,1*1*;b1,d2,b3,o4,f5,l6")) {
            for (int way = 0; way < Later.WAYS; way++) {
                for (Map.Entry<String, ToIntFunction<HungMobile>> each : KEPT.entrySet()) {
                    HungMobile x = used();
                    x.image();
                    each.getValue().applyAsInt(x);
                    asOnANewOne("behind " + each.getKey(), x, text, way);
                }
            }
        }
    }

    private static void anotherMobileAgainstChance() {
        for (int seed = 1; seed <= 150; seed++) {
            Chance chance = new Chance(seed);
            HungMobile x = Due.hung(chance.mobile());
            for (int i = 5 + chance.below(25); i > 0; i--) {
                chance.act(x);
                if (i == 7) {
                    x.image();
                }
            }
            x.lay(0);
            asOnANewOne("seed " + seed, x, chance.mobile(), seed % Later.WAYS);
        }
    }

    private static void asOnANewOne(String what, HungMobile x, String text, int way) {
        int reads = x.count(9);
        int lays = x.count(10);
        HungMobile twin = new HungMobile();
        for (int i = 0; i < reads; i++) {
            read(twin, "1*1*;f0,f0");
        }
        for (int i = 0; i < lays; i++) {
            twin.lay(0);
        }
        read(x, text);
        read(twin, text);
        Due.is("how often a mobile was read, " + what, x.count(9), reads + 1);
        Due.is("how often lay() was done, " + what, x.count(10), lays);
        Due.is("hours, " + what, x.count(5), 0);
        Due.is("seen, " + what, x.forget(), 0);
        Due.is("cut, " + what, x.mend(), 0);
        Due.is("kept, " + what, x.restore(), STATE);
        Due.is("digest, " + what, x.digest(), twin.digest());
        alike(what, x, twin, way);
    }

    private static List<Long> numbersOf(HungMobile x, String letters) {
        List<Long> numbers = new ArrayList<>();
        for (int rod = 0; rod < x.count(0); rod++) {
            for (int what = 0; what <= 10; what++) {
                numbers.add((long) x.rod(rod, what));
            }
        }
        for (int thing = 0; thing < x.count(1); thing++) {
            for (int what = 0; what <= 6; what++) {
                numbers.add((long) x.thing(thing, what));
            }
            numbers.add((long) x.trial(thing, 0));
        }
        if (x.count(0) > 0) {
            for (int number : new int[] {x.best(), x.even(), x.odds(0), x.odds(1)}) {
                numbers.add((long) number);
            }
        }
        letters.chars().forEach(code -> numbers.add((long) code));
        for (int what = 0; what <= 10; what++) {
            numbers.add((long) x.count(what));
        }
        return numbers;
    }

    private static long digestOf(List<Long> numbers) {
        long h = 1303;
        for (long number : numbers) {
            h = 31 * h + number;
        }
        return h;
    }

    // "for each of these numbers, in order": as the calls themselves tell them, in each state
    private static void digestInOrder() {
        for (String letters : List.of("", "1", "1*1*;b1,b1", "\u0001~,;*")) {
            HungMobile none = new HungMobile();
            Due.write(none, letters);
            Due.is("digest of none with " + letters, none.digest(), digestOf(numbersOf(none, letters)));
            for (int seed = 1; seed <= 100; seed++) {
                Chance chance = new Chance(seed);
                HungMobile x = Due.hung(chance.mobile());
                Due.write(x, letters);
                for (int i = chance.below(15); i > 0; i--) {
                    chance.act(x);
                }
                for (int i = chance.below(3); i > 0; i--) {
                    x.lay(1);
                }
                Due.is("digest, seed " + seed, x.digest(), digestOf(numbersOf(x, letters)));
            }
        }
    }

    // Each call that does something is seen by the digest, where the numbers that it takes are others
    private static void eachNumberIsInTheDigest() {
        Map<String, ToIntFunction<HungMobile>> all = new LinkedHashMap<>(KEPT);
        all.putAll(NOT_KEPT);
        for (Map.Entry<String, ToIntFunction<HungMobile>> each : all.entrySet()) {
            HungMobile x = used();
            List<Long> numbers = numbersOf(x, "3");
            long before = x.digest();
            each.getValue().applyAsInt(x);
            String letters = each.getKey().equals("letter") ? "3b" : each.getKey().equals("blank") ? "" : "3";
            Due.holds("digest is otherwise as its numbers are, " + each.getKey(),
                    (x.digest() == before) == numbersOf(x, letters).equals(numbers));
        }
    }

    // What each doing answers is what the calls that ask tell, before it or behind it
    private static void whatIsDoneIsTold() {
        for (int seed = 1; seed <= 250; seed++) {
            Chance chance = new Chance(seed);
            String text = chance.mobile();
            HungMobile x = new HungMobile();
            Due.write(x, text);
            Due.is("letters", x.count(8), text.length());
            Due.is("fault", x.fault(), x.count(8));
            int things = x.mobile();
            Due.is("things of " + text, things, x.count(1));
            Due.is("rods of " + text, things - 1, x.count(0));
            for (int i = 0; i < 12; i++) {
                chance.act(x);
            }
            theAnswersOf(x, chance);
        }
    }

    private static void theAnswersOf(HungMobile x, Chance chance) {
        int thing = chance.below(x.count(1));
        int other = (thing + 1) % x.count(1);
        int rod = chance.below(x.count(0));
        int was = x.rod(rod, 0);
        int both = was + x.rod(rod, 1);
        Due.is("move", x.move(rod, both - 1), was);
        Due.is("left", x.rod(rod, 0), both - 1);
        Due.is("right", x.rod(rod, 1), 1);
        was = x.thing(thing, 0);
        Due.is("change", x.change(thing, 4, 7), was);
        Due.is("kind, size", 10 * x.thing(thing, 0) + x.thing(thing, 1), 47);
        Due.is("hour", x.hour(), x.count(5));
        Due.is("image", x.image(), x.count(5));
        int cut = cutThings(x);
        Due.holds("mend, at least these", x.mend() >= cut);
        Due.is("things that are cut", cutThings(x), 0);
        Due.is("rods there", x.count(2), x.count(0));
        int place = 10 * x.thing(thing, 4) + x.thing(thing, 5);
        int otherPlace = 10 * x.thing(other, 4) + x.thing(other, 5);
        Due.is("exchange", x.exchange(thing, other), x.count(3));
        Due.is("there", 10 * x.thing(thing, 4) + x.thing(thing, 5), otherPlace);
        Due.is("there", 10 * x.thing(other, 4) + x.thing(other, 5), place);
        Due.is("cut", x.cut(thing), x.count(3));
        Due.is("things there", x.count(4), x.count(1) - 1);
        if (rod > 0) {
            Due.is("drop", x.drop(rod), x.count(2));
        }
        Due.is("mend", x.mend(), rod > 0 ? 2 : 1);
        was = x.count(7);
        Due.is("see", x.see(thing, rod, 3, 1), was < 6 ? was + 1 : HungMobile.FULL);
        Due.is("forget", x.forget(), Math.min(was + 1, 6));
        Due.is("seen", x.count(7), 0);
        Due.is("restore", x.restore(), x.count(5));
        Due.is("blank", x.blank(), 0);
    }

    private static int cutThings(HungMobile x) {
        int many = 0;
        for (int thing = 0; thing < x.count(1); thing++) {
            many += x.thing(thing, 3);
        }
        return many;
    }

    // What rod() and thing() tell of each, and count() of all
    private static void whatIsTogether() {
        for (int seed = 1; seed <= 250; seed++) {
            Chance chance = new Chance(seed);
            HungMobile x = Due.hung(chance.mobile());
            for (int i = chance.below(15); i > 0; i--) {
                chance.act(x);
            }
            int there = 0;
            int level = 0;
            for (int rod = 0; rod < x.count(0); rod++) {
                there += x.rod(rod, 8);
                level += x.rod(rod, 7) * x.rod(rod, 8);
                int tilt = (x.rod(rod, 5) - TOLD) * x.rod(rod, 1) - (x.rod(rod, 4) - TOLD) * x.rod(rod, 0);
                Due.is("tilt", x.rod(rod, 6), tilt + TOLD);
                Due.is("level", x.rod(rod, 7), tilt == 0 ? 1 : 0);
            }
            Due.is("rods there", x.count(2), there);
            Due.is("rods there and level", x.count(3), level);
            int things = 0;
            int weight = TOLD;
            for (int thing = 0; thing < x.count(1); thing++) {
                int rod = x.thing(thing, 4);
                int arm = x.thing(thing, 5);
                Due.is("where it hangs", x.rod(rod, 2 + arm), 10 + thing);
                Due.is("what it weighs there", x.rod(rod, 4 + arm), x.thing(thing, 3) == 1 ? TOLD : x.thing(thing, 2));
                if (x.thing(thing, 3) == 0 && x.rod(rod, 8) == 1) {
                    things++;
                    weight += x.thing(thing, 2) - TOLD;
                }
            }
            Due.is("things there", x.count(4), things);
            Due.is("what all weighs", x.count(6), weight);
            Due.is("what all weighs", x.count(6), x.rod(0, 4) + x.rod(0, 5) - TOLD);
        }
    }

    // What is told that would be is so, when it is done
    private static void whatWouldBeIs() {
        for (int seed = 1; seed <= 250; seed++) {
            Chance chance = new Chance(seed);
            HungMobile x = Due.hung(chance.mobile());
            for (int i = chance.below(9); i > 0; i--) {
                chance.act(x);
            }
            x.image();
            bestWhenDone(x);
            layWhenDone(x);
            hooksWhenMoved(x);
            addedBeads(x);
            evenWhenItIs(x);
            Due.is("restore", x.restore(), x.count(5));
        }
    }

    private static void bestWhenDone(HungMobile x) {
        int best = x.best();
        int most = x.count(3);
        int first = NONE;
        for (int one = 0; one < x.count(1); one++) {
            for (int other = one + 1; other < x.count(1); other++) {
                int level = x.exchange(one, other);
                if (level > most) {
                    most = level;
                    first = 10 * one + other;
                }
                x.restore();
            }
        }
        Due.is("best", best, first);
    }

    private static void layWhenDone(HungMobile x) {
        int many = x.lay(0);
        int much = x.lay(1);
        for (int place = 0; place < 6; place++) {
            int laid = x.lay(10 + place);
            int there = place < x.count(1) ? thingAt(x, place) : NONE;
            boolean isCut = there == NONE || x.thing(there, 3) == 1;
            Due.holds("place " + place, isCut == (laid == NONE));
            if (!isCut && laid != NONE && laid != there) {
                x.exchange(laid, there);
            }
        }
        Due.is("how many are level", x.count(3), many);
        int tilts = 0;
        for (int rod = 0; rod < x.count(0); rod++) {
            tilts += x.rod(rod, 8) == 1 ? Math.abs(x.rod(rod, 6) - TOLD) : 0;
        }
        Due.is("how much they tilt", tilts, much);
        Due.is("no other way is better", x.lay(0), many);
        Due.is("no other way is better", x.lay(1), much);
        Due.is("behind it no exchange makes more level", x.best(), NONE);
        x.restore();
    }

    /** PLACES are numbered as they are told: ROD by ROD, LEFT before RIGHT. */
    private static int thingAt(HungMobile x, int place) {
        int next = 0;
        for (int rod = 0; rod < x.count(0); rod++) {
            for (int what = 2; what <= 3; what++) {
                int end = x.rod(rod, what);
                if (end >= 10 && next++ == place) {
                    return end - 10;
                }
            }
        }
        return NONE;
    }

    private static void hooksWhenMoved(HungMobile x) {
        for (int rod = 0; rod < x.count(0); rod++) {
            int hook = x.rod(rod, 9);
            int both = x.rod(rod, 0) + x.rod(rod, 1);
            int least = NONE;
            for (int left = both - 1; left >= 1; left--) {
                x.move(rod, left);
                least = x.rod(rod, 7) == 1 ? left : least;
                Due.is("hook, wherever it is", x.rod(rod, 9), hook);
            }
            Due.is("hook", hook, least);
            x.restore();
        }
    }

    private static void addedBeads(HungMobile x) {
        for (int rod = 0; rod < x.count(0); rod++) {
            int add = x.rod(rod, 10);
            int tilt = x.rod(rod, 6) - TOLD;
            if (add == FAR) {
                for (int size = 0; size <= 30; size++) {
                    Due.holds("none makes it level", tilt + size * x.rod(rod, 1) != 0 && tilt - size * x.rod(rod, 0) != 0);
                }
            } else {
                int arm = add > 0 ? x.rod(rod, 1) : x.rod(rod, 0);
                Due.is("level with it", tilt + add * arm, 0);
                Due.holds("1 to 30", Math.abs(add) <= 30 && (add == 0) == (tilt == 0));
            }
        }
    }

    private static void evenWhenItIs(HungMobile x) {
        int even = x.even();
        int first = NONE;
        for (int later = 0; later <= 20 && first == NONE; later++) {
            first = x.count(3) == x.count(2) ? later : NONE;
            x.hour();
        }
        Due.is("even", even, first);
        x.restore();
    }

    // A THING of each SIZE, hung as it was thought: what is SEEN leaves that SIZE, and TRY leaves fewest at worst
    private static void whatIsSeenIsSo() {
        for (int seed = 1; seed <= 200; seed++) {
            Chance chance = new Chance(seed);
            HungMobile x = Due.hung((1 + chance.below(9)) + "*" + (1 + chance.below(9)) + "*;b0,b0");
            int kind = chance.below(5);
            int size = chance.below(10);
            x.change(0, kind, size);
            for (int hours = chance.below(12); hours > 0; hours--) {
                x.hour();
            }
            for (int many = 1; many <= 6; many++) {
                int bead = x.trial(0, 0);
                Due.holds("a bead", bead >= 0 && bead <= 9);
                x.change(1, 0, bead);
                int tilt = x.rod(0, 6) - TOLD;
                int sizes = x.thing(0, 6);
                Due.is("see", x.see(0, 0, bead, tilt < 0 ? 0 : tilt == 0 ? 1 : 2), many);
                Due.holds("its size can be", (x.thing(0, 6) >> size & 1) == 1);
                Due.is("no size comes back", x.thing(0, 6) & ~sizes, 0);
            }
            theSizesLeftAreAlike(x, size);
        }
    }

    /** What cannot be told apart by any bead weighs as the THING does, or lies between the same two beads. */
    private static void theSizesLeftAreAlike(HungMobile x, int size) {
        int sizes = x.thing(0, 6);
        int kind = x.thing(0, 0);
        int[][] ways = new int[10][10];
        for (int other = 0; other <= 9; other++) {
            for (int bead = 0; bead <= 9; bead++) {
                x.change(0, kind, other);
                x.change(1, 0, bead);
                ways[other][bead] = Integer.signum(x.rod(0, 6) - TOLD);
            }
        }
        for (int other = 0; other <= 9; other++) {
            boolean isAlike = Arrays.equals(ways[other], ways[size]);
            Due.holds("a size that no bead tells from it is left", !isAlike || (sizes >> other & 1) == 1);
        }
    }
}
