import java.math.BigInteger;

/** Both sides of each edge that the document names for what would be, is seen and is told of all: promises 16 to 27. */
public final class ToldEdgeTest {
    private static final int NONE = HungMobile.NONE, UNKNOWN = HungMobile.UNKNOWN, OUTSIDE = HungMobile.OUTSIDE,
            STATE = HungMobile.STATE, FULL = HungMobile.FULL, TOLD = HungMobile.TOLD;
    private static final int LEAST = Integer.MIN_VALUE, MOST = Integer.MAX_VALUE;
    private static final int LEFT = 0, LEVEL = 1, RIGHT = 2;
    private static final String CHAIN_RODS = "1*11,1*12,1*13,1*14,1*1*";
    /** Of all 720 orders this one alone is LEVEL: 2 and 1; 9 by 3; 12 by 4; 16 by 8; 24 by 6. */
    private static final String ONLY = "4*11,2*12,3*13,1*34,1*2*;b6,b8,b4,b9,b2,b1";

    public static void main(String[] args) {
        bestOfNone();
        bestFromFirstToLast();
        layWhat();
        layOfPlacesThatAreNot();
        layTwentyTimes();
        evenFromNow();
        evenAtTheLatest();
        oddsFromNoneToAll();
        oddsInLowestTerms();
        seenSixAtMost();
        beadAndHow();
        sizesAsBits();
        sizesByTheHour();
        forgetTellsAlsoNone();
        tryWithNoneLeft();
        tryByEachNumber();
        timesSeedAndWhat();
        drawsByTheirRest();
        eveningsWithWhatIsCut();
        imageWithAMobile();
        restoreOfWhatWasKept();
        countOfNone();
        countByEachNumber();
        digestWraps();
        fiveHundredAndTwelveCalls();
        Due.end();
    }

    private static void hours(HungMobile x, int many) {
        for (int i = 0; i < many; i++) {
            x.hour();
        }
    }

    // Promise 16: "EXCHANGE; NONE. STATE: no MOBILE."; "none, if by none more are than now"
    private static void bestOfNone() {
        Due.is("no mobile", new HungMobile().best(), STATE);
        Due.is("all are level", Due.hung(ONLY).best(), NONE);
        Due.is("none more than none", Due.hung("1*1*;b1,b2").best(), NONE);
        Due.is("as many as now are not more", Due.hung("1*11,1*1*;b2,b5,b5").best(), NONE);
        HungMobile x = Due.hung("1*2*;b2,b4");
        Due.is("one more than none", x.best(), 1);
        x.cut(1);
        Due.is("one of two is cut", x.best(), NONE);
        x.cut(0);
        Due.is("both are", x.best(), NONE);
    }

    // "told as 10 times the lesser one, and the other one: of like ones the least"
    private static void bestFromFirstToLast() {
        for (int one = 0; one < 6; one++) {
            for (int other = one + 1; other < 6; other++) {
                HungMobile x = Due.hung(ONLY);
                x.exchange(other, one);
                Due.is("back by " + one + " and " + other, x.best(), 10 * one + other);
                x.cut(one);
                int told = x.best();
                Due.holds("not by what is cut", told / 10 != one && told % 10 != one || told == NONE);
            }
        }
        HungMobile like = Due.hung("1112,1*1*,1*1*;b1,b2,b1,b2");
        Due.is("0 and 3 is less than 1 and 2", like.best(), 3);
        like.cut(0);
        Due.is("then 1 and 2", like.best(), 12);
    }

    // Promise 17: "what = 0 how many, 1 how much, 10 to 15 which THING at PLACE 0 to 5"; "OUTSIDE"
    private static void layWhat() {
        for (int what = -2; what <= 18; what++) {
            boolean isTold = what == 0 || what == 1 || what >= 10 && what <= 15;
            HungMobile x = Due.hung(ONLY);
            Due.is("lay " + what, x.lay(what), !isTold ? OUTSIDE : what == 0 ? 5 : what == 1 ? 0 : what - 10);
            Due.is("done", x.count(10), isTold ? 1 : 0);
            Due.is("lay " + what + " of none", new HungMobile().lay(what), isTold ? STATE : OUTSIDE);
        }
        for (int what : new int[] {LEAST, MOST}) {
            Due.is("lay " + what, Due.hung(ONLY).lay(what), OUTSIDE);
            Due.is("lay " + what + " of none", new HungMobile().lay(what), OUTSIDE);
        }
    }

    // "(NONE: the one there is CUT, or there is no such PLACE)"
    private static void layOfPlacesThatAreNot() {
        String things = "f1,f2,f3,f4,f5,f6";
        String[] rods = {"1*1*", "1*11,1*1*", "1*11,1*12,1*1*", "1*11,1*12,1*13,1*1*", CHAIN_RODS};
        for (int places = 2; places <= 6; places++) {
            HungMobile x = Due.hung(rods[places - 2] + ";" + things.substring(0, 3 * places - 1));
            for (int place = 0; place < 6; place++) {
                Due.is("place " + place + " of " + places, x.lay(10 + place), place < places ? place : NONE);
            }
            x.exchange(0, places - 1);
            x.cut(0);
            Due.is("the last place is of one that is cut", x.lay(10 + places - 1), NONE);
            Due.is("the first has the next one", x.lay(10), 1);
            for (int thing = 1; thing < places; thing++) {
                x.cut(thing);
            }
            Due.is("all are cut", x.lay(10), NONE);
            Due.is("all rods are level", x.lay(0), places - 1);
            Due.is("nothing tilts", x.lay(1), 0);
        }
    }

    // "STATE: no MOBILE, or lay() was done 20 times"
    private static void layTwentyTimes() {
        HungMobile x = Due.hung("1*2*;b1,b2");
        for (int times = 1; times <= 20; times++) {
            Due.is("lay", x.lay(11), 0);
            Due.is("refused, not done", x.lay(16), OUTSIDE);
            Due.is("done", x.count(10), times);
            x.digest();
        }
        for (int what : new int[] {0, 1, 10, 15}) {
            Due.is("lay " + what + " behind 20", x.lay(what), STATE);
        }
        Due.is("done", x.count(10), 20);
        x.image();
        x.restore();
        Due.is("an image does not bring them back", x.lay(0), STATE);
        Due.is("best goes on", x.best(), 1);
    }

    // EVEN: "the least HOUR from now (0 to 20)"
    private static void evenFromNow() {
        Due.is("no mobile", new HungMobile().even(), STATE);
        Due.is("now", Due.hung("1*1*;d3,b6").even(), 0);
        HungMobile x = Due.hung("1*1*;d3,b5");
        Due.is("in one", x.even(), 1);
        x.hour();
        Due.is("now", x.even(), 0);
        x.hour();
        Due.is("it was", x.even(), NONE);
        Due.is("the least of several", Due.hung("1*1*;d3,d2").even(), 6);
        Due.is("one rod of two is not enough", Due.hung("1*11,1*1*;f0,b1,b2").even(), NONE);
    }

    // Behind 18 HOURS all DROPS are nothing: no MOBILE is LEVEL later, if not by then.
    private static void evenAtTheLatest() {
        HungMobile x = Due.hung("1*1*;d9,f0");
        for (int hour = 0; hour <= 25; hour++) {
            Due.is("at " + hour, x.even(), Math.max(0, 18 - hour));
            x.hour();
        }
        Due.is("not even then", Due.hung("1*1*;d9,o1").even(), NONE);
        HungMobile two = Due.hung("1*11,1*1*;d4,d9,d8");
        Due.is("with the last drop", two.even(), 18);
        two.cut(1);
        Due.is("with the last that is there", two.even(), 16);
        two.drop(1);
        Due.is("with the last that is there", two.even(), 8);
    }

    private static void oddsAre(HungMobile x, int above, int below) {
        Due.is("odds above", x.odds(0), above);
        Due.is("odds below", x.odds(1), below);
    }

    // ODDS: "in lowest terms (0 of 1)"
    private static void oddsFromNoneToAll() {
        for (int what = -2; what <= 3; what++) {
            boolean isTold = what == 0 || what == 1;
            Due.is("odds " + what + " of none", new HungMobile().odds(what), isTold ? STATE : OUTSIDE);
            Due.is("odds " + what, Due.hung("1*1*;b1,b1").odds(what), isTold ? 1 : OUTSIDE);
        }
        for (int what : new int[] {LEAST, MOST}) {
            Due.is("odds " + what, Due.hung(ONLY).odds(what), OUTSIDE);
            Due.is("odds " + what + " of none", new HungMobile().odds(what), OUTSIDE);
        }
        oddsAre(Due.hung("1*1*;b1,b2"), 0, 1);
        oddsAre(Due.hung(CHAIN_RODS + ";b1,b2,b3,b4,b5,b7"), 0, 1);
        oddsAre(Due.hung(CHAIN_RODS + ";f1,f2,f3,f4,f5,f7"), 1, 1);
        oddsAre(Due.hung(ONLY), 1, 720);
    }

    private static void oddsInLowestTerms() {
        HungMobile x = Due.hung(ONLY);
        x.cut(5);
        oddsAre(x, 0, 1);
        for (int thing = 4; thing >= 1; thing--) {
            x.cut(thing);
        }
        oddsAre(x, 0, 1);
        x.cut(0);
        oddsAre(x, 1, 1);
        oddsAre(Due.hung("1*2*;b2,b1"), 1, 2);
        oddsAre(Due.hung("1*11,1*1*;b2,b2,b4"), 1, 3);
        HungMobile two = Due.hung("1*11,1*1*;b4,b4,b1");
        two.drop(1);
        oddsAre(two, 0, 1);
        two.change(2, 2, 0);
        oddsAre(two, 1, 3);
        two.change(1, 2, 0);
        oddsAre(two, 2, 3);
    }

    // SEEN "(6 at most)"; promise 20: "FULL."
    private static void seenSixAtMost() {
        HungMobile x = Due.hung("1*1*;b3,b3");
        for (int round = 0; round < 2; round++) {
            for (int seen = 1; seen <= 6; seen++) {
                Due.is("see", x.see(seen % 2, 0, 9, RIGHT), seen);
            }
            Due.is("see number 7", x.see(0, 0, 9, RIGHT), FULL);
            Due.is("see number 7, of the other", x.see(1, 0, 0, LEFT), FULL);
            Due.is("seen", x.count(7), 6);
            Due.is("it is not taken", x.thing(1, 6), 0b111111111);
            Due.is("forget", x.forget(), 6);
        }
        x.see(0, 0, 3, LEVEL);
        x.image();
        for (int seen = 2; seen <= 6; seen++) {
            x.see(0, 0, 3, LEVEL);
        }
        Due.is("full", x.see(0, 0, 3, LEVEL), FULL);
        x.restore();
        Due.is("as in the image", x.see(0, 0, 3, LEVEL), 2);
    }

    // Promise 20: "UNKNOWN: thing, rod; OUTSIDE: bead (0 to 9), how (0 to 2)"
    private static void beadAndHow() {
        for (int bead = -2; bead <= 11; bead++) {
            for (int how = -2; how <= 4; how++) {
                HungMobile x = Due.hung("1*11,1*1*;b3,b3,b3");
                boolean isTold = bead >= 0 && bead <= 9 && how >= 0 && how <= 2;
                Due.is("see " + bead + ", " + how, x.see(2, 1, bead, how), isTold ? 1 : OUTSIDE);
                Due.is("seen", x.count(7), isTold ? 1 : 0);
                Due.is("thing 3", x.see(3, 1, bead, how), UNKNOWN);
                Due.is("rod 2", x.see(2, 2, bead, how), UNKNOWN);
                Due.is("thing -1", x.see(-1, 1, bead, how), UNKNOWN);
                Due.is("rod -1", x.see(2, -1, bead, how), UNKNOWN);
            }
        }
        HungMobile x = Due.hung("1*1*;b3,b3");
        for (int far : new int[] {LEAST, MOST}) {
            Due.is("bead " + far, x.see(0, 0, far, 0), OUTSIDE);
            Due.is("how " + far, x.see(0, 0, 0, far), OUTSIDE);
            Due.is("thing " + far, x.see(far, 0, far, far), UNKNOWN);
            Due.is("rod " + far, x.see(0, far, far, far), UNKNOWN);
        }
    }

    // "SIZES (0 to 9) it can be of ... as bits"
    private static void sizesAsBits() {
        for (int bead = 0; bead <= 9; bead++) {
            int[] due = {0b1111111111 & -2 << bead, 1 << bead, (1 << bead) - 1};
            for (int how = LEFT; how <= RIGHT; how++) {
                HungMobile x = Due.hung("1*1*;b3,o3");
                x.see(0, 0, bead, how);
                Due.is("against " + bead + ", tilting " + how, x.thing(0, 6), due[how]);
                Due.is("of the other one all", x.thing(1, 6), 1023);
                x.see(1, 0, bead, how);
                int up = how == RIGHT ? bead == 0 ? 1022 : 1023 : how == LEVEL && bead == 0 ? 1 : 0;
                Due.is("a balloon against " + bead + ", tilting " + how, x.thing(1, 6), up);
            }
        }
        HungMobile x = Due.hung("1*1*;b3,b3");
        x.see(0, 0, 4, LEFT);
        x.see(0, 0, 6, RIGHT);
        Due.is("between 4 and 6", x.thing(0, 6), 1 << 5);
        x.see(0, 0, 5, LEFT);
        Due.is("nothing is so", x.thing(0, 6), 0);
    }

    private static void sizesByTheHour() {
        HungMobile x = Due.hung("1*1*;d9,b3");
        x.see(0, 0, 0, LEVEL);
        for (int hour = 0; hour <= 20; hour++) {
            Due.is("drops that are nothing at " + hour, x.thing(0, 6), (1 << Math.min(10, hour / 2 + 1)) - 1);
            x.hour();
        }
        x.change(0, 2, 0);
        Due.is("feathers", x.thing(0, 6), 1023);
        x.change(0, 3, 0);
        Due.is("balloons", x.thing(0, 6), 1);
    }

    // Promise 21: how much was SEEN: also when there is none
    private static void forgetTellsAlsoNone() {
        Due.is("no mobile", new HungMobile().forget(), 0);
        HungMobile x = Due.hung("1*1*;b3,b3");
        Due.is("nothing", x.forget(), 0);
        x.see(0, 0, 10, 0);
        Due.is("a refused one is none", x.forget(), 0);
        for (int many = 1; many <= 6; many++) {
            for (int i = 1; i <= many; i++) {
                x.see(0, 0, 0, LEFT);
            }
            Due.is("forget " + many, x.forget(), many);
            Due.is("forget again", x.forget(), 0);
            Due.is("seen", x.count(7), 0);
        }
    }

    // TRY: "of like ones the least; none, if there are none"
    private static void tryWithNoneLeft() {
        HungMobile x = Due.hung("1*1*;b3,b3");
        Due.is("of ten: 4 and 5 leave 5", x.trial(0, 0), 4);
        x.see(0, 0, 8, LEFT);
        Due.is("9 alone: all leave it", x.trial(0, 0), 0);
        x.see(0, 0, 9, RIGHT);
        Due.is("none is left", x.trial(0, 0), NONE);
        Due.is("of the other one all are", x.trial(1, 0), 4);
        x.forget();
        x.see(0, 0, 7, LEFT);
        Due.is("8 and 9: 8 tells which", x.trial(0, 0), 8);
        HungMobile far = Due.hung("9*1*;b3,b3");
        Due.is("0 and up to 1: 9 is 1 on the longer arm", far.trial(0, 0), 9);
    }

    // Promise 22: "UNKNOWN: thing, rod."
    private static void tryByEachNumber() {
        HungMobile x = Due.hung(CHAIN_RODS + ";b1,b2,b3,b4,b5,b6");
        for (int thing = -2; thing <= 8; thing++) {
            for (int rod = -2; rod <= 7; rod++) {
                boolean isTold = thing >= 0 && thing <= 5 && rod >= 0 && rod <= 4;
                Due.is("trial " + thing + ", " + rod, x.trial(thing, rod), isTold ? 4 : UNKNOWN);
            }
        }
        for (int far : new int[] {LEAST, MOST}) {
            Due.is("thing " + far, x.trial(far, 0), UNKNOWN);
            Due.is("rod " + far, x.trial(0, far), UNKNOWN);
            Due.is("both " + far, x.trial(far, far), UNKNOWN);
        }
        Due.is("no mobile", new HungMobile().trial(0, 0), UNKNOWN);
    }

    // Promise 23: "OUTSIDE: times (1 to 60), seed (0 at least), what; STATE: no MOBILE."
    private static void timesSeedAndWhat() {
        for (int times : new int[] {LEAST, -1, 0, 1, 2, 59, 60, 61, MOST}) {
            for (int seed : new int[] {LEAST, -1, 0, 1, MOST}) {
                for (int what : new int[] {LEAST, -1, 0, 1, 2, 3, MOST}) {
                    boolean isTold = times >= 1 && times <= 60 && seed >= 0 && what >= 0 && what <= 2;
                    String call = "evenings " + times + ", " + seed + ", " + what;
                    Due.is(call + " of none", new HungMobile().evenings(times, seed, what), isTold ? STATE : OUTSIDE);
                    int answer = Due.hung("1*1*;f1,f2").evenings(times, seed, what);
                    int due = what == 0 ? times : what == 1 ? TOLD : seedBehind(2 * times, seed);
                    Due.is(call, answer, isTold ? due : OUTSIDE);
                }
            }
        }
    }

    // DRAWS: "1103515245 times it and 12345, its rest by 2 to the 31"
    private static BigInteger next(BigInteger seed) {
        return seed.multiply(BigInteger.valueOf(1103515245)).add(BigInteger.valueOf(12345)).mod(BigInteger.ONE.shiftLeft(31));
    }

    private static int seedBehind(int draws, int first) {
        BigInteger seed = BigInteger.valueOf(first);
        for (int i = 0; i < draws; i++) {
            seed = next(seed);
        }
        return seed.intValueExact();
    }

    // "then that by 65536 (rounded down), its rest": for each number of THINGS, against what is done
    private static void drawsByTheirRest() {
        String things = "d1,d2,d3,d4,d5,d6";
        String[] rods = {"1*2*", "1*21,1*1*", "1*11,2*12,1*1*", "1*11,1*12,1*23,1*1*", CHAIN_RODS};
        for (int places = 2; places <= 6; places++) {
            String text = rods[places - 2] + ";" + things.substring(0, 3 * places - 1);
            for (int first : new int[] {0, 1, 65535, 65536, MOST - 1, MOST}) {
                HungMobile x = Due.hung(text);
                eveningsAsDone(x, 1, first);
                eveningsAsDone(x, 12, first);
            }
        }
    }

    private static void eveningsAsDone(HungMobile x, int times, int first) {
        int[] told = {x.evenings(times, first, 0), x.evenings(times, first, 1), x.evenings(times, first, 2)};
        BigInteger things = BigInteger.valueOf(x.count(1));
        BigInteger seed = BigInteger.valueOf(first);
        int level = 0;
        x.image();
        for (int i = 0; i < times; i++) {
            seed = next(seed);
            int one = seed.shiftRight(16).mod(things).intValue();
            seed = next(seed);
            int other = seed.shiftRight(16).mod(things).intValue();
            x.exchange(one, other);
            x.hour();
            level += x.count(3);
        }
        Due.is("how many", told[0], level);
        Due.is("the tilt", told[1], x.rod(0, 6));
        Due.is("the seed", told[2], seed.intValue());
        x.restore();
    }

    // "(if these are unlike, and none is CUT)"
    private static void eveningsWithWhatIsCut() {
        HungMobile x = Due.hung("1*21,1*12,1*1*;d9,d7,b2,o3");
        for (int cut = 0; cut < 4; cut++) {
            x.mend();
            x.cut(cut);
            eveningsAsDone(x, 15, 40 + cut);
        }
        x.cut(0);
        x.cut(1);
        x.cut(2);
        Due.is("nothing hangs: all rods, each evening", x.evenings(60, 9, 0), 180);
        Due.is("seeds are drawn all the same", x.evenings(60, 9, 2), seedBehind(120, 9));
        x.drop(1);
        Due.is("rod 0 alone is there", x.evenings(60, 9, 0), 60);
    }

    // Promise 24: "STATE: no MOBILE."; "An IMAGE is kept (one; the latest): how many HOURS there were"
    private static void imageWithAMobile() {
        HungMobile none = new HungMobile();
        Due.is("no mobile", none.image(), STATE);
        Due.is("none was kept", none.restore(), STATE);
        HungMobile x = Due.hung("1*1*;d3,b3");
        Due.is("at first", x.image(), 0);
        hours(x, 3);
        Due.is("at 3", x.image(), 3);
        hours(x, 2);
        Due.is("the latest", x.restore(), 3);
        Due.is("the latest again", x.restore(), 3);
    }

    // Promise 25: "STATE: none was kept, or there is another MOBILE since."
    private static void restoreOfWhatWasKept() {
        String text = "2112,1*2*,3*1*;b2,l1,o3,d4";
        HungMobile x = Due.hung(text);
        Due.is("none was kept", x.restore(), STATE);
        x.image();
        Due.write(x, text + ",");
        Due.is("no other mobile", x.mobile(), STATE);
        Due.is("so it is kept", x.restore(), 0);
        x.blank();
        Due.write(x, text);
        Due.is("on the page it is none yet", x.restore(), 0);
        Due.is("another one, though the same text", x.mobile(), 4);
        Due.is("another one since", x.restore(), STATE);
        hours(x, 2);
        Due.is("of this one", x.image(), 2);
        Due.is("of this one", x.restore(), 2);
        eachPartIsKept(text);
    }

    // "An IMAGE keeps arms, KINDS, SIZES, which THING is where, what is CUT, HOURS, SEEN."
    private static void eachPartIsKept(String text) {
        for (int part = 0; part <= 8; part++) {
            HungMobile x = Due.hung(text);
            x.see(1, 1, 4, RIGHT);
            x.cut(1);
            long before = x.digest();
            x.image();
            switch (part) {
                case 0 -> x.move(2, 1);
                case 1 -> x.change(0, 3, 2);
                case 2 -> x.change(0, 0, 3);
                case 3 -> x.exchange(0, 2);
                case 4 -> x.cut(2);
                case 5 -> x.drop(1);
                case 6 -> x.hour();
                case 7 -> x.see(0, 0, 3, LEFT);
                default -> x.mend();
            }
            Due.holds("part " + part + " is otherwise", x.digest() != before);
            Due.is("restore", x.restore(), 0);
            Due.is("part " + part + " is as it was", x.digest(), before);
            Due.is("what is cut", x.mend(), 1);
            Due.is("what is seen", x.forget(), 1);
        }
    }

    // Promise 26: "(told as 10000 more; no MOBILE: 10000)"
    private static void countOfNone() {
        HungMobile x = new HungMobile();
        for (int what = 0; what <= 10; what++) {
            Due.is("count " + what + " of none", x.count(what), what == 6 ? TOLD : 0);
        }
        Due.write(x, "1*1*;o9,o9");
        Due.is("letters", x.count(8), 10);
        Due.is("still none", x.count(6), TOLD);
        x.mobile();
        Due.is("below nothing", x.count(6), TOLD - 18);
        Due.is("letters", x.count(8), 0);
    }

    // Promise 26: "OUTSIDE."
    private static void countByEachNumber() {
        HungMobile x = Due.hung(ONLY);
        int[] due = {5, 6, 5, 5, 6, 0, TOLD + 30, 0, 0, 1, 0};
        for (int what = -3; what <= 14; what++) {
            boolean isTold = what >= 0 && what <= 10;
            Due.is("count " + what, x.count(what), isTold ? due[what] : OUTSIDE);
            Due.is("count " + what + " of none", new HungMobile().count(what), isTold ? what == 6 ? TOLD : 0 : OUTSIDE);
        }
        Due.is("count least", x.count(LEAST), OUTSIDE);
        Due.is("count most", x.count(MOST), OUTSIDE);
    }

    // Promise 27: "as longs, wrapping"
    private static void digestWraps() {
        Due.is("digest of a new one", new HungMobile().digest(), -3786242742168398439L);
        HungMobile x = new HungMobile();
        x.letter('4');
        Due.is("digest with a letter", x.digest(), -5371820043406289740L);
        HungMobile y = Due.hung(ONLY);
        Due.write(y, "abc");
        BigInteger h = BigInteger.valueOf(1303);
        for (int rod = 0; rod < 5; rod++) {
            for (int what = 0; what <= 10; what++) {
                h = and(h, y.rod(rod, what));
            }
        }
        for (int thing = 0; thing < 6; thing++) {
            for (int what = 0; what <= 6; what++) {
                h = and(h, y.thing(thing, what));
            }
            h = and(h, y.trial(thing, 0));
        }
        for (int number : new int[] {y.best(), y.even(), y.odds(0), y.odds(1), 'a', 'b', 'c'}) {
            h = and(h, number);
        }
        for (int what = 0; what <= 10; what++) {
            h = and(h, y.count(what));
        }
        Due.is("digest", y.digest(), h.longValue());
    }

    private static BigInteger and(BigInteger h, int number) {
        return h.multiply(BigInteger.valueOf(31)).add(BigInteger.valueOf(number));
    }

    // "An object is used for at most 512 calls"
    private static void fiveHundredAndTwelveCalls() {
        HungMobile x = new HungMobile();
        Due.write(x, "1*1*;d9,b3");
        Due.is("call 11", x.mobile(), 2);
        for (int hour = 1; hour <= 499; hour++) {
            Due.is("hour", x.hour(), hour);
        }
        Due.is("call 511", x.count(5), 499);
        Due.is("call 512", x.rod(0, 6), TOLD + 3);
    }
}
