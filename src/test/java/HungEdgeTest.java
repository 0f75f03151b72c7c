/** Both sides of each edge that the document names for what hangs and what is done with it: promises 6 to 15. */
public final class HungEdgeTest {
    private static final int NONE = HungMobile.NONE, UNKNOWN = HungMobile.UNKNOWN, OUTSIDE = HungMobile.OUTSIDE,
            STATE = HungMobile.STATE, FULL = HungMobile.FULL, FAR = HungMobile.FAR, TOLD = HungMobile.TOLD;
    private static final int LEAST = Integer.MIN_VALUE, MOST = Integer.MAX_VALUE;
    private static final String CHAIN_RODS = "1*11,1*12,1*13,1*14,1*1*";
    private static final String CHAIN = CHAIN_RODS + ";b1,b2,b3,b4,b5,b6";
    private static final int BEAD = 0, BELL = 1, FEATHER = 2, BALLOON = 3, DROP = 4;

    public static void main(String[] args) {
        rodsByEachNumber();
        thingsByEachNumber();
        levelIsZero();
        thereOrNot();
        greatestTilts();
        hookFromEndToEnd();
        hookThatIsNone();
        addFrom1To30();
        addThatCannotBe();
        weightsOfEachKind();
        dropsAreZeroAtLeast();
        cutThingsWeighTheSame();
        asEachKind();
        hoursUpTo999();
        exchangeOfEachTwo();
        exchangeOfWhatIsCut();
        moveFromEndToEnd();
        cutOnce();
        dropOnce();
        mendFromNoneToAll();
        changeToEachKindAndSize();
        Due.end();
    }

    private static void hours(HungMobile x, int many) {
        for (int i = 0; i < many; i++) {
            x.hour();
        }
    }

    // Promise 6: "UNKNOWN; OUTSIDE."
    private static void rodsByEachNumber() {
        String[] texts = {"1*1*;b1,b1", "1*11,1*1*;b1,b1,b1", CHAIN};
        for (String text : texts) {
            HungMobile x = Due.hung(text);
            int rods = x.count(0);
            for (int rod = -3; rod <= 8; rod++) {
                Due.is("rod " + rod + " of " + text, x.rod(rod, 0), rod >= 0 && rod < rods ? 1 : UNKNOWN);
            }
            for (int what = -3; what <= 14; what++) {
                boolean isTold = what >= 0 && what <= 10;
                Due.holds("rod 0, " + what, isTold == (x.rod(0, what) != OUTSIDE));
                Due.is("no rod, " + what, x.rod(rods, what), UNKNOWN);
            }
            for (int far : new int[] {LEAST, MOST}) {
                Due.is("rod " + far, x.rod(far, 0), UNKNOWN);
                Due.is("rod 0, " + far, x.rod(0, far), OUTSIDE);
                Due.is("rod " + far + ", " + far, x.rod(far, far), UNKNOWN);
            }
        }
    }

    // Promise 7: "UNKNOWN; OUTSIDE."
    private static void thingsByEachNumber() {
        String[] texts = {"1*1*;b1,b2", "1*11,1*1*;b1,b2,b3", CHAIN};
        for (String text : texts) {
            HungMobile x = Due.hung(text);
            int things = x.count(1);
            for (int thing = -3; thing <= 9; thing++) {
                boolean isTold = thing >= 0 && thing < things;
                Due.is("thing " + thing + " of " + text, x.thing(thing, 1), isTold ? thing + 1 : UNKNOWN);
                Due.is("thing " + thing + " as a bead", x.as(thing, BEAD), isTold ? thing : UNKNOWN);
            }
            for (int what = -3; what <= 10; what++) {
                boolean isTold = what >= 0 && what <= 6;
                Due.holds("thing 0, " + what, isTold == (x.thing(0, what) != OUTSIDE));
                Due.is("no thing, " + what, x.thing(things, what), UNKNOWN);
            }
            for (int far : new int[] {LEAST, MOST}) {
                Due.is("thing " + far, x.thing(far, 0), UNKNOWN);
                Due.is("thing 0, " + far, x.thing(0, far), OUTSIDE);
                Due.is("thing " + far + ", " + far, x.thing(far, far), UNKNOWN);
            }
        }
    }

    // "It is LEVEL, if that is 0."
    private static void levelIsZero() {
        int[] sizes = {3, 4, 5};
        for (int size : sizes) {
            HungMobile x = Due.hung("1*1*;b4,b" + size);
            Due.is("tilt by " + size, x.rod(0, 6), TOLD + size - 4);
            Due.is("level by " + size, x.rod(0, 7), size == 4 ? 1 : 0);
            Due.is("levels by " + size, x.count(3), size == 4 ? 1 : 0);
        }
        Due.is("nothing on both arms is level", Due.hung("9*1*;f9,b0").rod(0, 7), 1);
        Due.is("loads that are not the same may be", Due.hung("9*1*;b1,b9").rod(0, 7), 1);
        Due.is("the same loads may be not", Due.hung("2*1*;b3,b3").rod(0, 7), 0);
    }

    // Promise 6: "whether it is there (1, 0: it is CUT, or hangs from one that is)"
    private static void thereOrNot() {
        HungMobile x = Due.hung(CHAIN);
        for (int cut = 4; cut >= 1; cut--) {
            x.drop(cut);
            for (int rod = 0; rod < 5; rod++) {
                Due.is("rod " + rod + ", cut from " + cut, x.rod(rod, 8), rod < cut ? 1 : 0);
            }
            Due.is("rods there", x.count(2), cut);
            Due.is("things there", x.count(4), cut);
            x.mend();
            x.drop(cut);
            Due.is("rods there by that one alone", x.count(2), cut);
            for (int rod = 0; rod < 5; rod++) {
                Due.is("rod " + rod + ", cut at " + cut, x.rod(rod, 8), rod < cut ? 1 : 0);
            }
        }
        HungMobile two = Due.hung("1112,1*1*,1*1*;b1,b2,b3,b4");
        two.drop(1);
        Due.is("not the one beside it", two.rod(2, 8), 1);
        Due.is("nor the one above", two.rod(0, 8), 1);
        two.cut(2);
        two.cut(3);
        Due.is("a rod with nothing on it is there", two.rod(2, 8), 1);
    }

    private static void greatestTilts() {
        HungMobile x = Due.hung("9*91,9*92,9*93,9*94,9*9*;o9,l9,l9,l9,l9,l9");
        Due.is("right", x.rod(0, 5), TOLD + 90);
        Due.is("left", x.rod(0, 4), TOLD - 9);
        Due.is("tilt", x.rod(0, 6), TOLD + 9 * 90 + 9 * 9);
        x.move(0, 1);
        Due.is("tilt on the longest arm", x.rod(0, 6), TOLD + 17 * 90 + 9);
        Due.is("no bead is enough", x.rod(0, 10), FAR);
        HungMobile y = Due.hung("919*,929*,939*,949*,9*9*;l9,o9,o9,o9,o9,o9");
        Due.is("left", y.rod(0, 4), TOLD - 45);
        y.move(0, 17);
        Due.is("tilt of balloons", y.rod(0, 6), TOLD + 18 + 17 * 45);
        Due.is("all weighs", y.count(6), TOLD + 18 - 45);
        HungMobile z = Due.hung("919*,929*,939*,949*,9*9*;o9,l9,l9,l9,l9,l9");
        z.move(0, 17);
        Due.is("least tilt", z.rod(0, 6), TOLD - 17 * 90 - 9);
    }

    // HOOK: "(its length as it is): the least; none", each arm 1 at least
    private static void hookFromEndToEnd() {
        HungMobile x = Due.hung("9*9*;b1,d9");
        Due.is("18 to 1: none", x.rod(0, 9), NONE);
        x.hour();
        Due.is("17 to 1: the end", x.rod(0, 9), 17);
        Due.is("there it is level", levelAt(x, 17), 1);
        x.exchange(0, 1);
        Due.is("1 to 17: the other end", x.rod(0, 9), 1);
        Due.is("there it is level", levelAt(x, 1), 1);
        Due.is("the hook does not lie by where it is", x.rod(0, 9), 1);
        HungMobile all = Due.hung("9*9*;f1,f2");
        for (int left = 1; left <= 17; left++) {
            all.move(0, left);
            Due.is("level at all: the least", all.rod(0, 9), 1);
        }
        Due.is("one to one, in the middle", Due.hung("8*4*;b3,b3").rod(0, 9), 6);
        Due.is("the shortest rod", Due.hung("1*1*;b3,b3").rod(0, 9), 1);
    }

    private static int levelAt(HungMobile x, int left) {
        x.move(0, left);
        return x.rod(0, 7);
    }

    // HOOK: "(NONE)"
    private static void hookThatIsNone() {
        Due.is("the left arm cannot be 0", Due.hung("9*9*;b1,f0").rod(0, 9), NONE);
        Due.is("nor the right one", Due.hung("9*9*;f0,b1").rod(0, 9), NONE);
        Due.is("nor can the hook lie between", Due.hung("1*2*;b1,b1").rod(0, 9), NONE);
        Due.is("nor outside of the arms", Due.hung("9*9*;b1,o1").rod(0, 9), NONE);
        Due.is("the shortest rod", Due.hung("1*1*;b3,b4").rod(0, 9), NONE);
        Due.is("18 to 1", Due.hung("9*9*;l9,b1").rod(0, 9), NONE);
    }

    // ADD: "the least SIZE (1 to 30)"
    private static void addFrom1To30() {
        Due.is("level", Due.hung("1*1*;b5,b5").rod(0, 10), 0);
        Due.is("1 on the right", Due.hung("1*1*;b5,b4").rod(0, 10), 1);
        Due.is("1 on the left", Due.hung("1*1*;b4,b5").rod(0, 10), -1);
        Due.is("1 by the arm", Due.hung("9*9*;b5,b4").rod(0, 10), 1);
        HungMobile right = Due.hung("5*1*;b6,b1");
        Due.is("29", right.rod(0, 10), 29);
        right.change(1, FEATHER, 1);
        Due.is("30", right.rod(0, 10), 30);
        right.change(1, BALLOON, 1);
        Due.is("31", right.rod(0, 10), FAR);
        HungMobile left = Due.hung("1*5*;b1,b6");
        Due.is("29 on the left", left.rod(0, 10), -29);
        left.change(0, FEATHER, 1);
        Due.is("30 on the left", left.rod(0, 10), -30);
        left.change(0, BALLOON, 1);
        Due.is("31 on the left", left.rod(0, 10), FAR);
    }

    // ADD: "99, if none is"
    private static void addThatCannotBe() {
        Due.is("3 by 2", Due.hung("1*2*;b3,b0").rod(0, 10), FAR);
        Due.is("4 by 2", Due.hung("1*2*;b4,b0").rod(0, 10), 2);
        Due.is("1 by 9", Due.hung("1*9*;b1,b0").rod(0, 10), FAR);
        Due.is("9 by 9", Due.hung("1*9*;b9,b0").rod(0, 10), 1);
        Due.is("1 by 9 on the left", Due.hung("9*1*;b0,b1").rod(0, 10), FAR);
        Due.is("9 by 9 on the left", Due.hung("9*1*;b0,b9").rod(0, 10), -1);
    }

    // "A BEAD WEIGHS its SIZE; a BELL twice that; a FEATHER nothing; a BALLOON its SIZE below nothing"
    private static void weightsOfEachKind() {
        int[] times = {1, 2, 0, -1, 2};
        for (int kind = 0; kind <= 4; kind++) {
            for (int size = 0; size <= 9; size++) {
                HungMobile x = Due.hung("1*1*;" + "blfod".charAt(kind) + size + ",f0");
                Due.is("kind " + kind + " of " + size, x.thing(0, 2), TOLD + times[kind] * size);
                Due.is("its load", x.rod(0, 4), TOLD + times[kind] * size);
                Due.is("all", x.count(6), TOLD + times[kind] * size);
            }
        }
    }

    // "a DROP what a bell of its SIZE does, less 1 for each HOUR (0 at least)"
    private static void dropsAreZeroAtLeast() {
        for (int size = 0; size <= 9; size++) {
            HungMobile x = Due.hung("1*1*;d" + size + ",f0");
            for (int hours = 0; hours <= 22; hours++) {
                int due = hours < 2 * size ? 2 * size - hours : 0;
                Due.is("a drop of " + size + " behind " + hours, x.thing(0, 2), TOLD + due);
                Due.is("its load", x.rod(0, 4), TOLD + due);
                Due.is("the tilt", x.rod(0, 6), TOLD - due);
                Due.is("level", x.rod(0, 7), due == 0 ? 1 : 0);
                x.hour();
            }
        }
        HungMobile late = Due.hung("1*1*;b1,b1");
        hours(late, 17);
        late.change(0, DROP, 9);
        Due.is("a drop that comes at 17", late.thing(0, 2), TOLD + 1);
        late.hour();
        Due.is("at 18", late.thing(0, 2), TOLD);
        hours(late, 400);
        Due.is("at 418", late.thing(0, 2), TOLD);
    }

    // Promise 7: "what it WEIGHS, whether it is there or not"
    private static void cutThingsWeighTheSame() {
        HungMobile x = Due.hung("1*11,1*1*;b3,l4,o5");
        x.cut(0);
        x.drop(1);
        Due.is("cut", x.thing(0, 2), TOLD + 3);
        Due.is("on a rod that is cut", x.thing(1, 2), TOLD + 8);
        Due.is("on a rod that is cut", x.thing(2, 2), TOLD - 5);
        Due.is("it is cut itself", x.thing(0, 3), 1);
        Due.is("it is not", x.thing(1, 3), 0);
        Due.is("to what they hung from it is nothing", x.count(6), TOLD);
        Due.is("what is cut still hangs", x.rod(0, 2) * 100 + x.rod(0, 3), 1001);
        x.cut(2);
        Due.is("cut itself, too", x.thing(2, 3), 1);
        Due.is("a rod that is cut keeps what is not", x.rod(1, 4), TOLD + 8);
        Due.is("and has not what is", x.rod(1, 5), TOLD);
    }

    // Promise 8: "NONE: it is none such (the cast fails). UNKNOWN; OUTSIDE."
    private static void asEachKind() {
        String[] kinds = {"b....", "bl...", "b.f..", "b..o.", "bl..d"};
        for (int kind = 0; kind <= 4; kind++) {
            HungMobile x = Due.hung("1*1*;b1," + "blfod".charAt(kind) + "0");
            for (int taken = -2; taken <= 6; taken++) {
                boolean isKind = taken >= 0 && taken <= 4;
                int due = !isKind ? OUTSIDE : kinds[kind].charAt(taken) == '.' ? NONE : 1;
                Due.is("kind " + kind + " as " + taken, x.as(1, taken), due);
                Due.is("no thing as " + taken, x.as(2, taken), UNKNOWN);
            }
            Due.is("as least", x.as(1, LEAST), OUTSIDE);
            Due.is("as most", x.as(1, MOST), OUTSIDE);
            Due.is("least as most", x.as(LEAST, MOST), UNKNOWN);
            Due.is("most as least", x.as(MOST, LEAST), UNKNOWN);
            x.change(0, kind, 9);
            Due.is("thing 0 is answered by 0", x.as(0, kind), 0);
        }
    }

    // Promise 9: "STATE: no MOBILE; FULL: 999 were."; more calls than are spoken of, as fewer do not get there
    private static void hoursUpTo999() {
        Due.is("hour of none", new HungMobile().hour(), STATE);
        HungMobile x = Due.hung("1*1*;b6,d5");
        for (int hour = 1; hour <= 999; hour++) {
            Due.is("hour", x.hour(), hour);
        }
        Due.is("hour behind 999", x.hour(), FULL);
        Due.is("hour behind 999 again", x.hour(), FULL);
        Due.is("hours", x.count(5), 999);
        Due.is("image", x.image(), 999);
        Due.is("even", x.even(), NONE);
        Due.is("evenings go on all the same", x.evenings(60, 1, 0), 0);
        Due.write(x, "1*1*;b6,d5");
        x.mobile();
        Due.is("of another one the first", x.hour(), 1);
    }

    // Promise 10: "UNKNOWN: one, other, or they are the same"
    private static void exchangeOfEachTwo() {
        for (int one = -1; one <= 6; one++) {
            for (int other = -1; other <= 6; other++) {
                HungMobile x = Due.hung(CHAIN_RODS + ";f1,f2,f3,f4,f5,f6");
                boolean isTold = one >= 0 && one <= 5 && other >= 0 && other <= 5 && one != other;
                Due.is("exchange " + one + ", " + other, x.exchange(one, other), isTold ? 5 : UNKNOWN);
                for (int thing = 0; thing <= 5; thing++) {
                    int at = !isTold ? thing : thing == one ? other : thing == other ? one : thing;
                    Due.is("thing " + thing + " hangs from", x.thing(thing, 4), Math.min(at, 4));
                    Due.is("from the arm", x.thing(thing, 5), at / 5);
                    Due.is("which has", x.rod(Math.min(at, 4), 2 + at / 5), 10 + thing);
                }
            }
        }
        HungMobile x = Due.hung(CHAIN);
        for (int far : new int[] {LEAST, MOST}) {
            Due.is("exchange 0, " + far, x.exchange(0, far), UNKNOWN);
            Due.is("exchange " + far + ", 0", x.exchange(far, 0), UNKNOWN);
            Due.is("exchange " + far + ", " + far, x.exchange(far, far), UNKNOWN);
        }
    }

    // Promise 10: "STATE: one of them is CUT."; "how many RODS that are there are LEVEL then"
    private static void exchangeOfWhatIsCut() {
        HungMobile x = Due.hung("1*11,1*1*;b4,b2,b2");
        x.cut(1);
        Due.is("one is cut", x.exchange(1, 2), STATE);
        Due.is("the other is cut", x.exchange(2, 1), STATE);
        Due.is("none of them is", x.exchange(0, 2), 0);
        x.cut(0);
        Due.is("both are", x.exchange(0, 1), STATE);
        x.mend();
        Due.is("none any more", x.exchange(0, 2), 2);
        x.drop(1);
        Due.is("on a rod that is cut: that one does not count", x.exchange(1, 2), 0);
        x.change(1, FEATHER, 0);
        Due.is("rod 0 alone is there", x.exchange(0, 1), 1);
    }

    // Promise 11: "left (1 at least, less than both arms together)"
    private static void moveFromEndToEnd() {
        for (int left = 1; left <= 9; left++) {
            for (int right = 1; right <= 9; right++) {
                HungMobile x = Due.hung(left + "*" + right + "*;b1,b1");
                int both = left + right;
                Due.is("to 0", x.move(0, 0), OUTSIDE);
                Due.is("to all", x.move(0, both), OUTSIDE);
                Due.is("arms stay", x.rod(0, 0) * 100 + x.rod(0, 1), left * 100 + right);
                Due.is("to 1", x.move(0, 1), left);
                Due.is("then right", x.rod(0, 1), both - 1);
                Due.is("to all but 1", x.move(0, both - 1), 1);
                Due.is("then right", x.rod(0, 1), 1);
                Due.is("then left", x.rod(0, 0), both - 1);
                Due.is("still not to all", x.move(0, both), OUTSIDE);
                Due.is("still not to 0", x.move(0, 0), OUTSIDE);
            }
        }
        HungMobile x = Due.hung("3*4*;b1,b1");
        for (int left : new int[] {LEAST, -1, 8, MOST}) {
            Due.is("to " + left, x.move(0, left), OUTSIDE);
            Due.is("rod " + left, x.move(left, 1), UNKNOWN);
            Due.is("rod " + left + " to " + left, x.move(left, left), UNKNOWN);
        }
    }

    // Promise 12: "UNKNOWN; STATE: it is."
    private static void cutOnce() {
        HungMobile x = Due.hung(CHAIN);
        for (int thing = 0; thing <= 5; thing++) {
            Due.is("things there", x.count(4), 6 - thing);
            Due.holds("cut " + thing, x.cut(thing) >= 0);
            Due.is("cut " + thing + " again", x.cut(thing), STATE);
            Due.is("it is", x.thing(thing, 3), 1);
        }
        Due.is("none there", x.count(4), 0);
        Due.is("all level", x.count(3), 5);
        for (int thing : new int[] {LEAST, -1, 6, MOST}) {
            Due.is("cut " + thing, x.cut(thing), UNKNOWN);
        }
        x.mend();
        Due.holds("cut behind mend", x.cut(5) >= 0);
        Due.is("cut of none", new HungMobile().cut(0), UNKNOWN);
    }

    // Promise 13: "UNKNOWN: also ROD 0; STATE: it is."
    private static void dropOnce() {
        for (int rod = -2; rod <= 7; rod++) {
            HungMobile x = Due.hung(CHAIN);
            boolean isTold = rod >= 1 && rod <= 4;
            Due.is("drop " + rod, x.drop(rod), isTold ? rod : UNKNOWN);
            Due.is("drop " + rod + " again", x.drop(rod), isTold ? STATE : UNKNOWN);
            Due.is("things there", x.count(4), isTold ? rod : 6);
        }
        HungMobile x = Due.hung(CHAIN);
        Due.is("drop least", x.drop(LEAST), UNKNOWN);
        Due.is("drop most", x.drop(MOST), UNKNOWN);
        x.drop(1);
        Due.is("one that is not there is not cut", x.drop(2), 1);
        Due.is("now it is", x.drop(2), STATE);
        Due.is("one rod alone: none to drop", Due.hung("1*1*;b1,b1").drop(1), UNKNOWN);
        Due.is("nor rod 0", Due.hung("1*1*;b1,b1").drop(0), UNKNOWN);
        Due.is("nor of none", new HungMobile().drop(1), UNKNOWN);
    }

    // Promise 14: "how much was (THINGS and RODS that were CUT themselves)"
    private static void mendFromNoneToAll() {
        Due.is("no mobile", new HungMobile().mend(), 0);
        HungMobile x = Due.hung(CHAIN);
        long before = x.digest();
        Due.is("nothing is cut", x.mend(), 0);
        x.drop(1);
        Due.is("one rod, though four are gone", x.mend(), 1);
        x.cut(5);
        Due.is("one thing", x.mend(), 1);
        for (int thing = 0; thing <= 5; thing++) {
            x.cut(thing);
        }
        for (int rod = 1; rod <= 4; rod++) {
            x.drop(rod);
        }
        Due.is("all but rod 0", x.mend(), 10);
        Due.is("all hangs again", x.digest(), before);
        Due.is("and no more", x.mend(), 0);
    }

    // Promise 15: "OUTSIDE: kind (0 to 4), size (0 to 9)."
    private static void changeToEachKindAndSize() {
        for (int kind = -2; kind <= 6; kind++) {
            for (int size = -2; size <= 11; size++) {
                HungMobile x = Due.hung("1*1*;b1,o3");
                boolean isTold = kind >= 0 && kind <= 4 && size >= 0 && size <= 9;
                Due.is("change " + kind + ", " + size, x.change(1, kind, size), isTold ? BALLOON : OUTSIDE);
                Due.is("kind", x.thing(1, 0), isTold ? kind : BALLOON);
                Due.is("size", x.thing(1, 1), isTold ? size : 3);
                Due.is("no thing", x.change(2, kind, size), UNKNOWN);
                Due.is("no thing", x.change(-1, kind, size), UNKNOWN);
            }
        }
        HungMobile x = Due.hung("1*1*;b1,l3");
        for (int far : new int[] {LEAST, MOST}) {
            Due.is("kind " + far, x.change(1, far, 0), OUTSIDE);
            Due.is("size " + far, x.change(1, 0, far), OUTSIDE);
            Due.is("thing " + far, x.change(far, far, far), UNKNOWN);
        }
        Due.is("it was a bell", x.change(1, BEAD, 0), BELL);
        Due.is("then a bead", x.change(1, BEAD, 0), BEAD);
        Due.is("of size 0", x.thing(1, 1), 0);
    }
}
