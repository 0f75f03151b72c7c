/** For each promise of the document: ordinary inputs, the edges that it names, wrong inputs. */
public final class PromiseTest {
    private static final int NONE = HungMobile.NONE, UNKNOWN = HungMobile.UNKNOWN, OUTSIDE = HungMobile.OUTSIDE,
            STATE = HungMobile.STATE, FULL = HungMobile.FULL, FAR = HungMobile.FAR, TOLD = HungMobile.TOLD;
    private static final int LEAST = Integer.MIN_VALUE, MOST = Integer.MAX_VALUE;

    /** ROD 0 has ROD 1 and ROD 2; loads 4 and 5; TILTS -3, 2, 17. */
    private static final String THREE = "2112,1*2*,3*1*;b2,l1,o3,d4";
    /** ROD 0 - ROD 1 - ROD 2 - ROD 3 - ROD 4, with all six THINGS. */
    private static final String CHAIN_RODS = "1*11,1*12,1*13,1*14,1*1*";
    private static final String CHAIN = CHAIN_RODS + ";b1,b2,b3,b4,b5,b6";

    public static void main(String[] args) {
        constants();
        promise1New();
        promise2Letter();
        promise3Blank();
        promise4Fault();
        promise5Mobile();
        promise6Rod();
        promise6HookAndAdd();
        promise7Thing();
        promise8As();
        promise9Hour();
        promise10Exchange();
        promise11Move();
        promise12Cut();
        promise13Drop();
        promise14Mend();
        promise15Change();
        promise16Best();
        promise17Lay();
        promise17LayWithCuts();
        promise18Even();
        promise19Odds();
        promise20See();
        promise20SeenTellsSizes();
        promise21Forget();
        promise22Trial();
        promise23Evenings();
        promise24Image();
        promise25Restore();
        promise26Count();
        promise27Digest();
        refusalsChangeNothing();
        Due.end();
    }

    private static void constants() {
        Due.is("NONE", NONE, -1);
        Due.is("UNKNOWN", UNKNOWN, -101);
        Due.is("OUTSIDE", OUTSIDE, -102);
        Due.is("STATE", STATE, -103);
        Due.is("FULL", FULL, -104);
        Due.is("FAR", FAR, 99);
        Due.is("TOLD", TOLD, 10000);
    }

    private static void promise1New() {
        HungMobile x = new HungMobile();
        for (int what = 0; what <= 10; what++) {
            Due.is("new: count " + what, x.count(what), what == 6 ? TOLD : 0);
        }
        Due.is("new: fault", x.fault(), 0);
        Due.is("new: mobile", x.mobile(), STATE);
        Due.is("new: blank", x.blank(), 0);
        Due.is("new: rod", x.rod(0, 0), UNKNOWN);
        Due.is("new: thing", x.thing(0, 0), UNKNOWN);
        Due.is("new: as", x.as(0, 0), UNKNOWN);
        Due.is("new: hour", x.hour(), STATE);
        Due.is("new: exchange", x.exchange(0, 1), UNKNOWN);
        Due.is("new: move", x.move(0, 1), UNKNOWN);
        Due.is("new: cut", x.cut(0), UNKNOWN);
        Due.is("new: drop", x.drop(1), UNKNOWN);
        Due.is("new: mend", x.mend(), 0);
        Due.is("new: change", x.change(0, 0, 0), UNKNOWN);
        Due.is("new: best", x.best(), STATE);
        Due.is("new: lay", x.lay(0), STATE);
        Due.is("new: even", x.even(), STATE);
        Due.is("new: odds", x.odds(0), STATE);
        Due.is("new: see", x.see(0, 0, 0, 0), UNKNOWN);
        Due.is("new: forget", x.forget(), 0);
        Due.is("new: trial", x.trial(0, 0), UNKNOWN);
        Due.is("new: evenings", x.evenings(1, 0, 0), STATE);
        Due.is("new: image", x.image(), STATE);
        Due.is("new: restore", x.restore(), STATE);
    }

    private static void promise2Letter() {
        HungMobile x = new HungMobile();
        for (int code : new int[] {0, -1, 127, LEAST, MOST}) {
            Due.is("letter " + code, x.letter(code), OUTSIDE);
        }
        Due.is("letter 1", x.letter(1), 1);
        Due.is("letter 126", x.letter(126), 2);
        for (int i = 3; i <= 46; i++) {
            Due.is("letter number " + i, x.letter(42), i);
        }
        Due.is("letter number 47", x.letter(42), FULL);
        Due.is("wrong letter number 47", x.letter(127), OUTSIDE);
        Due.is("letters", x.count(8), 46);
        x.blank();
        Due.is("letter behind blank", x.letter(42), 1);
    }

    private static void promise3Blank() {
        HungMobile x = new HungMobile();
        Due.is("blank of nothing", x.blank(), 0);
        Due.write(x, "1*1*");
        Due.is("blank", x.blank(), 4);
        Due.is("letters behind blank", x.count(8), 0);
        Due.is("blank again", x.blank(), 0);
        Due.write(x, "1*1*;b1,b1");
        Due.is("mobile behind blank", x.mobile(), 2);
    }

    private static void faultOf(String text, int place) {
        HungMobile x = new HungMobile();
        Due.write(x, text);
        Due.is("fault of " + text, x.fault(), place);
        Due.is("fault again of " + text, x.fault(), place);
        Due.is("letters behind fault of " + text, x.count(8), text.length());
    }

    private static void promise4Fault() {
        for (String whole : new String[] {"1*1*;b0,b9", THREE, CHAIN, "9114,1213,1*1*,1*1*,1*1*;b1,b1,b1,b1,b1,b1",
                "1311,121*,1*1*,1*1*;l1,f1,o1,d1,b1", "1*11,1*1*;b1,b1,b1"}) {
            faultOf(whole, whole.length());
            faultOf(whole.substring(0, whole.length() - 1), whole.length() - 1);
            faultOf(whole + ",", whole.length());
            faultOf(whole + "b", whole.length());
        }
        faultOf("", 0);
        faultOf("0", 0);
        faultOf("*", 0);
        faultOf("a", 0);
        faultOf("1", 1);
        faultOf("10", 1);
        faultOf("15", 1);
        faultOf("1;", 1);
        faultOf("14", 2);
        faultOf("1*0", 2);
        faultOf("1*,", 2);
        faultOf("1*1*,", 4);
        faultOf("1*11;", 4);
        faultOf("1111", 3);
        faultOf("1*1*;x", 5);
        faultOf("1*1*;B", 5);
        faultOf("1*1*;bb", 6);
        faultOf("1*1*;b1;", 7);
        faultOf("1*1*;b1,b1,", 10);
        faultOf("1*11,1112", 6);
        faultOf("1*11,1*10", 8);
        faultOf("1*11,1*1*,", 9);
        faultOf("1112,131*,1*1*,141*,151*", 16 + 5);
        // ROD 1 has to be told by ROD 0, if any other one is.
        faultOf("121*", 3);
        faultOf("1213", 3);
        faultOf("1*12", 3);
        faultOf("1211", 4);
        faultOf("1311,1*1*", 8);
        faultOf("1311,1*14", 8);
        faultOf("1311,1*12", 9);
        faultOf("1411,1213,1", 11);
        faultOf("1411,121*,1*1*", 13);
        faultOf("1411,121*,131*,1*1*,", 20);
    }

    private static void promise5Mobile() {
        HungMobile x = new HungMobile();
        Due.is("mobile of nothing", x.mobile(), STATE);
        Due.write(x, "1*1*;b1");
        Due.is("mobile with too few things", x.mobile(), STATE);
        Due.is("page behind a refusal", x.count(8), 7);
        Due.is("read behind a refusal", x.count(9), 0);
        Due.is("rest", x.letter(','), 8);
        Due.is("rest", x.letter('d'), 9);
        Due.is("mobile without the last size", x.mobile(), STATE);
        Due.is("rest", x.letter('9'), 10);
        Due.is("mobile", x.mobile(), 2);
        Due.is("page behind mobile", x.count(8), 0);
        Due.is("read", x.count(9), 1);
        x.hour();
        x.cut(0);
        x.see(0, 0, 1, 1);
        x.image();
        x.lay(0);
        Due.write(x, "1*1*;b1,b1,");
        Due.is("mobile with more", x.mobile(), STATE);
        Due.is("old one stays", x.thing(1, 0), 4);
        Due.is("image stays", x.restore(), 1);
        x.blank();
        Due.write(x, THREE);
        Due.is("another mobile", x.mobile(), 4);
        Due.is("rods", x.count(0), 3);
        Due.is("things there", x.count(4), 4);
        Due.is("hours of another mobile", x.count(5), 0);
        Due.is("seen of another mobile", x.count(7), 0);
        Due.is("read twice", x.count(9), 2);
        Due.is("lay() was done all the same", x.count(10), 1);
        Due.is("nothing is cut", x.mend(), 0);
        Due.is("the image is another's", x.restore(), STATE);
        Due.write(x, "1*2*;f3,o4");
        Due.is("a smaller mobile", x.mobile(), 2);
        Due.is("rods of the smaller", x.rod(1, 0), UNKNOWN);
        Due.is("things of the smaller", x.thing(2, 0), UNKNOWN);
        Due.is("weight of the smaller", x.count(6), TOLD - 4);
        x.exchange(0, 1);
        Due.write(x, "1*2*;f3,o4");
        x.mobile();
        Due.is("things lie in order again", x.rod(0, 2), 10);
    }

    private static void rodIs(HungMobile x, int rod, int... answers) {
        for (int what = 0; what < answers.length; what++) {
            Due.is("rod " + rod + ", " + what, x.rod(rod, what), answers[what]);
        }
    }

    private static void promise6Rod() {
        HungMobile x = Due.hung(THREE);
        rodIs(x, 0, 2, 1, 1, 2, TOLD + 4, TOLD + 5, TOLD - 3, 0, 1, NONE, 3);
        rodIs(x, 1, 1, 2, 10, 11, TOLD + 2, TOLD + 2, TOLD + 2, 0, 1, NONE, -2);
        rodIs(x, 2, 3, 1, 12, 13, TOLD - 3, TOLD + 8, TOLD + 17, 0, 1, NONE, FAR);
        for (int what : new int[] {-1, 11, LEAST, MOST}) {
            Due.is("rod what " + what, x.rod(0, what), OUTSIDE);
            Due.is("no rod, what " + what, x.rod(3, what), UNKNOWN);
        }
        Due.is("rod -1", x.rod(-1, 0), UNKNOWN);
        Due.is("rod least", x.rod(LEAST, 0), UNKNOWN);
        Due.is("rod most", x.rod(MOST, 0), UNKNOWN);
        x.drop(2);
        rodIs(x, 0, 2, 1, 1, 2, TOLD + 4, TOLD, TOLD - 8, 0, 1, NONE, 8);
        rodIs(x, 2, 3, 1, 12, 13, TOLD - 3, TOLD + 8, TOLD + 17, 0, 0, NONE, FAR);
        x.cut(1);
        rodIs(x, 1, 1, 2, 10, 11, TOLD + 2, TOLD, TOLD - 2, 0, 1, NONE, 1);
        x.cut(0);
        rodIs(x, 1, 1, 2, 10, 11, TOLD, TOLD, TOLD, 1, 1, 1, 0);
        HungMobile chain = Due.hung(CHAIN);
        chain.drop(2);
        int[] there = {1, 1, 0, 0, 0};
        for (int rod = 0; rod < 5; rod++) {
            Due.is("there " + rod, chain.rod(rod, 8), there[rod]);
        }
        Due.is("a rod that is cut keeps what it has", chain.rod(2, 5), TOLD + 4 + 5 + 6);
        Due.is("it weighs nothing to its own", chain.rod(1, 5), TOLD);
    }

    private static void promise6HookAndAdd() {
        HungMobile x = Due.hung("1*5*;b4,b2");
        Due.is("hook: 4 times 2 is 2 times 4", x.rod(0, 9), 2);
        Due.is("tilt", x.rod(0, 6), TOLD + 6);
        Due.is("add on the left", x.rod(0, 10), -6);
        x.move(0, 2);
        Due.is("level at its hook", x.rod(0, 7), 1);
        Due.is("add to a level one", x.rod(0, 10), 0);
        Due.is("hook of a level one", x.rod(0, 9), 2);
        x.change(0, 0, 9);
        Due.is("no hook", x.rod(0, 9), NONE);
        Due.is("no whole bead: 10 by 4", x.rod(0, 10), FAR);
        x.change(1, 0, 0);
        Due.is("the left arm is not 0", x.rod(0, 9), NONE);
        x.exchange(0, 1);
        Due.is("nor is the right one", x.rod(0, 9), NONE);
        x.exchange(0, 1);
        x.change(0, 2, 5);
        Due.is("all hooks: the least", x.rod(0, 9), 1);
        HungMobile far = Due.hung("5*1*;b6,b0");
        Due.is("add 30", far.rod(0, 10), 30);
        far.change(1, 3, 1);
        Due.is("add 31: none", far.rod(0, 10), FAR);
        HungMobile left = Due.hung("1*5*;b0,b6");
        Due.is("add 30 on the left", left.rod(0, 10), -30);
        left.change(0, 3, 1);
        Due.is("add 31 on the left: none", left.rod(0, 10), FAR);
        HungMobile apart = Due.hung("2*2*;o3,b3");
        Due.is("one pulls up: no hook", apart.rod(0, 9), NONE);
        Due.is("one pulls up: add", apart.rod(0, 10), -6);
        HungMobile up = Due.hung("1*3*;o6,o2");
        Due.is("both pull up: level", up.rod(0, 7), 1);
        Due.is("both pull up: hook", up.rod(0, 9), 1);
    }

    private static void thingIs(HungMobile x, int thing, int... answers) {
        for (int what = 0; what < answers.length; what++) {
            Due.is("thing " + thing + ", " + what, x.thing(thing, what), answers[what]);
        }
    }

    private static void promise7Thing() {
        HungMobile x = Due.hung("1*11,1*12,1*1*;b7,l4,f9,o5");
        thingIs(x, 0, 0, 7, TOLD + 7, 0, 0, 0, 1023);
        thingIs(x, 1, 1, 4, TOLD + 8, 0, 1, 0, 1023);
        thingIs(x, 2, 2, 9, TOLD, 0, 2, 0, 1023);
        thingIs(x, 3, 3, 5, TOLD - 5, 0, 2, 1, 1023);
        x.change(0, 4, 2);
        thingIs(x, 0, 4, 2, TOLD + 4, 0, 0, 0, 1023);
        for (int hours = 1; hours <= 6; hours++) {
            x.hour();
            Due.is("a drop behind " + hours, x.thing(0, 2), TOLD + Math.max(0, 4 - hours));
        }
        Due.is("a bell by then", x.thing(1, 2), TOLD + 8);
        Due.is("a balloon by then", x.thing(3, 2), TOLD - 5);
        x.exchange(0, 3);
        thingIs(x, 0, 4, 2, TOLD, 0, 2, 1, 1023);
        thingIs(x, 3, 3, 5, TOLD - 5, 0, 0, 0, 1023);
        x.drop(1);
        x.cut(3);
        thingIs(x, 1, 1, 4, TOLD + 8, 0, 1, 0, 1023);
        thingIs(x, 3, 3, 5, TOLD - 5, 1, 0, 0, 1023);
        for (int what : new int[] {-1, 7, LEAST, MOST}) {
            Due.is("thing what " + what, x.thing(0, what), OUTSIDE);
            Due.is("no thing, what " + what, x.thing(4, what), UNKNOWN);
        }
        Due.is("thing -1", x.thing(-1, 0), UNKNOWN);
        Due.is("thing least", x.thing(LEAST, 0), UNKNOWN);
        Due.is("thing most", x.thing(MOST, 0), UNKNOWN);
    }

    private static void promise8As() {
        HungMobile x = Due.hung("1*11,1*12,1*13,1*1*;b1,l1,f1,o1,d1");
        String[] kinds = {"10000", "11000", "10100", "10010", "11001"};
        for (int thing = 0; thing < 5; thing++) {
            for (int kind = 0; kind < 5; kind++) {
                int due = kinds[thing].charAt(kind) == '1' ? thing : NONE;
                Due.is("as " + thing + ", " + kind, x.as(thing, kind), due);
            }
        }
        Due.is("as -1", x.as(0, -1), OUTSIDE);
        Due.is("as 5", x.as(0, 5), OUTSIDE);
        Due.is("no thing as 5", x.as(5, 5), UNKNOWN);
        Due.is("thing -1 as 0", x.as(-1, 0), UNKNOWN);
        x.cut(4);
        x.change(4, 1, 3);
        Due.is("no drop any more", x.as(4, 4), NONE);
        Due.is("a bell, though cut", x.as(4, 1), 4);
    }

    private static void promise9Hour() {
        HungMobile x = new HungMobile();
        Due.is("hour of none", x.hour(), STATE);
        x = Due.hung("1*1*;b6,d5");
        Due.is("tilt at first", x.rod(0, 6), TOLD + 4);
        for (int hour = 1; hour <= 480; hour++) {
            Due.is("hour", x.hour(), hour);
            Due.is("hours", x.count(5), hour);
            Due.is("tilt", x.rod(0, 6), TOLD + Math.max(0, 10 - hour) - 6);
        }
        for (int hour = 481; hour <= 999; hour++) {
            Due.is("hour", x.hour(), hour);
        }
        Due.is("hour behind 999", x.hour(), FULL);
        Due.is("hours stay", x.count(5), 999);
    }

    private static void promise10Exchange() {
        HungMobile x = Due.hung("1*11,2*1*;b6,b4,b2");
        Due.is("level at first", x.count(3), 1);
        Due.is("exchange", x.exchange(1, 2), 2);
        Due.is("left of rod 1", x.rod(1, 2), 12);
        Due.is("right of rod 1", x.rod(1, 3), 11);
        Due.is("back", x.exchange(2, 1), 1);
        Due.is("across rods", x.exchange(0, 2), 0);
        Due.is("rod 0 has", x.rod(0, 2), 12);
        Due.is("rod 1 has", x.rod(1, 3), 10);
        Due.is("the same", x.exchange(1, 1), UNKNOWN);
        Due.is("one", x.exchange(3, 0), UNKNOWN);
        Due.is("other", x.exchange(0, 3), UNKNOWN);
        Due.is("one below", x.exchange(-1, 0), UNKNOWN);
        Due.is("other least", x.exchange(0, LEAST), UNKNOWN);
        x.cut(1);
        Due.is("one is cut", x.exchange(1, 0), STATE);
        Due.is("other is cut", x.exchange(0, 1), STATE);
        Due.is("the same one, cut", x.exchange(1, 1), UNKNOWN);
        Due.is("cut, with none", x.exchange(1, 7), UNKNOWN);
        x.mend();
        x.drop(1);
        Due.is("what hangs from a cut rod is not cut", x.exchange(0, 2), 0);
        Due.is("it moved", x.rod(0, 2), 10);
    }

    private static void promise11Move() {
        HungMobile x = Due.hung("3*4*;b1,b1");
        Due.is("move", x.move(0, 1), 3);
        Due.is("left", x.rod(0, 0), 1);
        Due.is("right", x.rod(0, 1), 6);
        Due.is("tilt", x.rod(0, 6), TOLD + 5);
        Due.is("move to the end", x.move(0, 6), 1);
        Due.is("right", x.rod(0, 1), 1);
        Due.is("move nowhere", x.move(0, 6), 6);
        for (int left : new int[] {0, -1, 7, LEAST, MOST}) {
            Due.is("move to " + left, x.move(0, left), OUTSIDE);
            Due.is("move none to " + left, x.move(1, left), UNKNOWN);
        }
        Due.is("move -1", x.move(-1, 1), UNKNOWN);
        Due.is("arms stay", x.rod(0, 0) * 10 + x.rod(0, 1), 61);
        HungMobile wide = Due.hung("9*9*;b1,b1");
        Due.is("wide", wide.move(0, 17), 9);
        Due.is("wide right", wide.rod(0, 1), 1);
        HungMobile tight = Due.hung("1*1*;b1,b1");
        Due.is("tight", tight.move(0, 2), OUTSIDE);
        Due.is("tight stays", tight.move(0, 1), 1);
        HungMobile three = Due.hung(THREE);
        three.drop(2);
        Due.is("a cut rod", three.move(2, 2), 3);
        Due.is("its arms", three.rod(2, 1), 2);
        Due.is("other rods", three.rod(1, 0) * 10 + three.rod(1, 1), 12);
    }

    private static void promise12Cut() {
        HungMobile x = Due.hung("1*11,1*1*;b4,b2,b2");
        Due.is("level", x.count(3), 2);
        Due.is("cut", x.cut(0), 1);
        Due.is("tilt", x.rod(0, 6), TOLD + 4);
        Due.is("it is cut", x.thing(0, 3), 1);
        Due.is("things there", x.count(4), 2);
        Due.is("again", x.cut(0), STATE);
        Due.is("cut next", x.cut(1), 0);
        Due.is("cut last", x.cut(2), 2);
        Due.is("all weighs", x.count(6), TOLD);
        Due.is("cut 3", x.cut(3), UNKNOWN);
        Due.is("cut -1", x.cut(-1), UNKNOWN);
        Due.is("cut least", x.cut(LEAST), UNKNOWN);
        x.mend();
        x.drop(1);
        Due.is("from a rod that is cut", x.cut(2), 0);
        Due.is("that counts, too", x.mend(), 2);
    }

    private static void promise13Drop() {
        HungMobile x = Due.hung(CHAIN);
        Due.is("rod 0", x.drop(0), UNKNOWN);
        Due.is("rod 5", x.drop(5), UNKNOWN);
        Due.is("rod -1", x.drop(-1), UNKNOWN);
        Due.is("rod least", x.drop(LEAST), UNKNOWN);
        Due.is("drop 3", x.drop(3), 3);
        Due.is("again", x.drop(3), STATE);
        Due.is("things there", x.count(4), 3);
        Due.is("things are not cut", x.thing(5, 3), 0);
        Due.is("weighs", x.count(6), TOLD + 1 + 2 + 3);
        Due.is("one that is not there, but not cut", x.drop(4), 3);
        Due.is("drop 1", x.drop(1), 1);
        Due.is("weighs", x.count(6), TOLD + 1);
        Due.is("mend", x.mend(), 3);
        Due.is("all there", x.count(2), 5);
    }

    private static void promise14Mend() {
        HungMobile x = Due.hung(CHAIN);
        Due.is("mend nothing", x.mend(), 0);
        x.cut(0);
        x.cut(5);
        x.drop(1);
        x.drop(4);
        Due.is("mend", x.mend(), 4);
        Due.is("rods there", x.count(2), 5);
        Due.is("things there", x.count(4), 6);
        Due.is("weighs", x.count(6), TOLD + 21);
        Due.is("not cut", x.thing(0, 3), 0);
        Due.is("can be cut again", x.drop(4), 4);
        Due.is("mend again", x.mend(), 1);
        Due.is("mend again", x.mend(), 0);
    }

    private static void promise15Change() {
        HungMobile x = Due.hung("1*1*;b4,d9");
        Due.is("change", x.change(0, 1, 2), 0);
        Due.is("kind", x.thing(0, 0), 1);
        Due.is("size", x.thing(0, 1), 2);
        Due.is("change", x.change(0, 3, 9), 1);
        Due.is("change", x.change(1, 0, 0), 4);
        Due.is("weighs", x.count(6), TOLD - 9);
        Due.is("kind -1", x.change(0, -1, 0), OUTSIDE);
        Due.is("kind 5", x.change(0, 5, 0), OUTSIDE);
        Due.is("size -1", x.change(0, 0, -1), OUTSIDE);
        Due.is("size 10", x.change(0, 0, 10), OUTSIDE);
        Due.is("no thing", x.change(2, 5, 10), UNKNOWN);
        Due.is("thing -1", x.change(-1, 0, 0), UNKNOWN);
        Due.is("it stays", x.thing(0, 0) * 10 + x.thing(0, 1), 39);
        x.cut(0);
        Due.is("a cut one", x.change(0, 2, 3), 3);
        Due.is("is cut still", x.thing(0, 3), 1);
    }

    private static void promise16Best() {
        Due.is("level already", Due.hung("1*1*;b3,b3").best(), NONE);
        Due.is("exchange both", Due.hung("1*2*;b1,b2").best(), 1);
        Due.is("no use", Due.hung("1*1*;b1,b2").best(), NONE);
        HungMobile x = Due.hung("1*11,1*1*;b2,b4,b2");
        Due.is("most", x.best(), 1);
        Due.is("nothing is done", x.rod(0, 2), 10);
        HungMobile like = Due.hung("1*11,1*12,1*1*;f0,f0,b4,f0");
        Due.is("2 of 3 tilt; 0 and 2 leave one, 1 and 2 two", like.best(), 2);
        HungMobile tie = Due.hung("1112,1*1*,1*1*;b1,b2,b1,b2");
        Due.is("0 and 3 as good as 1 and 2: the least", tie.best(), 3);
        HungMobile last = Due.hung(CHAIN_RODS + ";f0,b9,f0,f0,f0,f0");
        Due.is("up by one rod", last.best(), 1);
        last.cut(0);
        Due.is("none if the better one is cut", last.best(), NONE);
        HungMobile off = Due.hung("1*11,1*1*;b1,b2,b3");
        off.drop(1);
        off.change(1, 2, 0);
        Due.is("a thing of a rod that is cut may come", off.best(), 1);
        HungMobile strict = Due.hung("1*11,1*1*;b4,b2,b2");
        strict.exchange(0, 1);
        Due.is("strictly more, the least such", strict.best(), 1);
        HungMobile high = Due.hung(CHAIN_RODS + ";l8,b8,b1,b2,b4,b1");
        Due.is("10 times the lesser one, and the other", high.best(), 24);
        Due.is("what it told is so", high.exchange(4, 2), 5);
    }

    private static void layIs(HungMobile x, int many, int much, int... places) {
        Due.is("lay 0", x.lay(0), many);
        Due.is("lay 1", x.lay(1), much);
        for (int place = 0; place < 6; place++) {
            Due.is("lay " + (10 + place), x.lay(10 + place), place < places.length ? places[place] : NONE);
        }
    }

    private static void promise17Lay() {
        layIs(Due.hung("1*1*;b3,b5"), 0, 2, 0, 1);
        layIs(Due.hung("1*2*;b1,b2"), 1, 0, 1, 0);
        layIs(Due.hung("1*11,1*1*;b2,b2,b4"), 2, 0, 2, 0, 1);
        layIs(Due.hung("1*2*;b1,b3"), 0, 1, 1, 0);
        layIs(Due.hung("1*11,1*1*;b1,b9,b1"), 1, 7, 1, 0, 2);
        // A LEVEL ROD is more than less TILT: without one it would be 31.
        layIs(Due.hung("9*91,1*1*;b1,b1,o3"), 1, 45, 2, 0, 1);
        layIs(Due.hung(CHAIN_RODS + ";b1,b1,b2,b4,b8,l8"), 5, 0, 5, 4, 3, 2, 0, 1);
        layIs(Due.hung(CHAIN_RODS + ";f1,f2,f3,f4,f5,f6"), 5, 0, 0, 1, 2, 3, 4, 5);
        HungMobile x = Due.hung("1*2*;b1,b2");
        for (int what : new int[] {-1, 2, 9, 16, LEAST, MOST}) {
            Due.is("lay " + what, x.lay(what), OUTSIDE);
        }
        Due.is("not done", x.count(10), 0);
        for (int times = 1; times <= 20; times++) {
            Due.is("lay", x.lay(times % 2 == 0 ? 15 : 10), times % 2 == 0 ? NONE : 1);
            Due.is("done", x.count(10), times);
        }
        Due.is("lay behind 20", x.lay(0), STATE);
        Due.is("wrong lay behind 20", x.lay(2), OUTSIDE);
        Due.is("done", x.count(10), 20);
        Due.is("nothing was laid", x.rod(0, 2), 10);
    }

    private static void promise17LayWithCuts() {
        HungMobile x = Due.hung("1*11,1*12,1*1*;b8,b1,b2,b4");
        x.cut(1);
        // PLACE 1 is bare: ROD 1 tilts by 2 and 4, which is all that ROD 2 has.
        layIs(x, 0, 2 + 6 + 2, 0, NONE, 2, 3);
        x.mend();
        x.exchange(1, 3);
        x.cut(1);
        x.cut(0);
        Due.is("bare places", x.lay(10), NONE);
        Due.is("bare places", x.lay(13), NONE);
        Due.is("4 and 2 tilt by 10, 2 and 4 by 12", x.lay(1), 10);
        Due.is("4 first", x.lay(11), 3);
        Due.is("then 2", x.lay(12), 2);
        x.cut(2);
        x.cut(3);
        Due.is("all bare", x.lay(0), 3);
        Due.is("all bare", x.lay(1), 0);
        HungMobile off = Due.hung("1*11,1*1*;b5,b3,f0");
        off.drop(1);
        layIs(off, 1, 0, 2, 0, 1);
    }

    private static void promise18Even() {
        Due.is("now", Due.hung("1*1*;b3,b3").even(), 0);
        Due.is("never", Due.hung("1*1*;b3,b4").even(), NONE);
        HungMobile x = Due.hung("1*1*;b5,d9");
        Due.is("behind 13", x.even(), 13);
        x.hour();
        x.hour();
        Due.is("from now", x.even(), 11);
        for (int hours = 3; hours <= 14; hours++) {
            x.hour();
        }
        Due.is("it was", x.even(), NONE);
        Due.is("nothing is done", x.count(5), 14);
        HungMobile late = Due.hung("1*1*;f0,d9");
        Due.is("at 18 the drop is nothing", late.even(), 18);
        HungMobile two = Due.hung("1*11,1*1*;d5,d4,b3");
        Due.is("not at once", two.even(), NONE);
        two.drop(1);
        Due.is("rods that are there", two.even(), 10);
        two.cut(0);
        Due.is("things that are there", two.even(), 0);
    }

    private static void oddsAre(HungMobile x, int above, int below) {
        Due.is("odds above", x.odds(0), above);
        Due.is("odds below", x.odds(1), below);
    }

    private static void promise19Odds() {
        oddsAre(Due.hung("1*1*;b3,b3"), 1, 1);
        oddsAre(Due.hung("1*1*;b3,b4"), 0, 1);
        oddsAre(Due.hung("1*2*;b2,b1"), 1, 2);
        oddsAre(Due.hung("1*11,1*1*;b2,b2,b4"), 1, 3);
        oddsAre(Due.hung(CHAIN_RODS + ";b1,b1,b2,b4,b8,l8"), 1, 360);
        HungMobile x = Due.hung("1*11,1*1*;b2,f0,b2");
        oddsAre(x, 0, 1);
        x.drop(1);
        oddsAre(x, 1, 3);
        x.cut(0);
        oddsAre(x, 1, 1);
        x.cut(2);
        x.cut(1);
        oddsAre(x, 1, 1);
        for (int what : new int[] {-1, 2, LEAST, MOST}) {
            Due.is("odds " + what, x.odds(what), OUTSIDE);
            Due.is("odds of none " + what, new HungMobile().odds(what), OUTSIDE);
        }
        HungMobile cut = Due.hung("1*11,1*1*;b2,b2,b4");
        cut.cut(2);
        oddsAre(cut, 0, 1);
        HungMobile hours = Due.hung("1*1*;b5,d3");
        oddsAre(hours, 0, 1);
        hours.hour();
        oddsAre(hours, 1, 1);
    }

    private static void promise20See() {
        HungMobile x = Due.hung("1*1*;b3,b3");
        for (int i = 1; i <= 6; i++) {
            Due.is("see", x.see(i % 2, 0, i, i % 3), i);
        }
        Due.is("see number 7", x.see(0, 0, 0, 0), FULL);
        Due.is("wrong bead number 7", x.see(0, 0, 10, 0), OUTSIDE);
        Due.is("wrong how number 7", x.see(0, 0, 0, 3), OUTSIDE);
        Due.is("wrong thing number 7", x.see(2, 0, 10, 3), UNKNOWN);
        Due.is("wrong rod number 7", x.see(0, 1, 10, 3), UNKNOWN);
        Due.is("seen", x.count(7), 6);
        x.forget();
        Due.is("bead -1", x.see(0, 0, -1, 0), OUTSIDE);
        Due.is("how -1", x.see(0, 0, 0, -1), OUTSIDE);
        Due.is("thing -1", x.see(-1, 0, 0, 0), UNKNOWN);
        Due.is("rod -1", x.see(0, -1, 0, 0), UNKNOWN);
        Due.is("bead 9, how 2", x.see(0, 0, 9, 2), 1);
        Due.is("bead 0, how 0", x.see(0, 0, 0, 0), 2);
    }

    private static void promise20SeenTellsSizes() {
        HungMobile x = Due.hung("1*21,2*3*;b3,b3,l3");
        x.see(0, 0, 2, 1);
        Due.is("size 4 of a bead: 4 by 1 is 2 by 2", x.thing(0, 6), 1 << 4);
        Due.is("nothing of another", x.thing(1, 6), 1023);
        x.see(1, 1, 4, 2);
        Due.is("RIGHT: 2 times size below 12", x.thing(1, 6), 0b111111);
        x.see(1, 1, 2, 0);
        Due.is("and LEFT: 2 times size above 6", x.thing(1, 6), 0b110000);
        x.change(1, 1, 0);
        Due.is("as a bell", x.thing(1, 6), 0b100);
        x.change(1, 3, 0);
        Due.is("as a balloon", x.thing(1, 6), 0);
        x.change(1, 4, 0);
        x.hour();
        Due.is("as a drop at hour 1", x.thing(1, 6), 0b1000);
        x.cut(1);
        Due.is("though it is cut", x.thing(1, 6), 0b1000);
        x.mend();
        x.change(1, 0, 0);
        x.move(1, 1);
        Due.is("arms as they are: size below 16, above 8", x.thing(1, 6), 0b1000000000);
        x.see(2, 0, 0, 1);
        Due.is("a bell against nothing", x.thing(2, 6), 1);
        x.change(2, 2, 0);
        Due.is("feathers of all sizes", x.thing(2, 6), 1023);
    }

    private static void promise21Forget() {
        HungMobile x = Due.hung("1*1*;b3,b3");
        Due.is("forget nothing", x.forget(), 0);
        x.see(0, 0, 3, 1);
        x.see(0, 0, 2, 0);
        Due.is("forget", x.forget(), 2);
        Due.is("seen", x.count(7), 0);
        Due.is("all sizes", x.thing(0, 6), 1023);
        Due.is("see again", x.see(1, 0, 3, 1), 1);
        Due.is("not of the old one", x.thing(0, 6), 1023);
    }

    private static void promise22Trial() {
        HungMobile x = Due.hung("1*11,1*2*;b3,l3,f3");
        Due.is("half of ten: 4 leaves 5", x.trial(0, 0), 4);
        Due.is("by a longer arm: 2 is 4", x.trial(0, 1), 2);
        Due.is("bells of ten: 8 is 4", x.trial(1, 0), 8);
        Due.is("feathers: all are like", x.trial(2, 0), 0);
        x.see(0, 0, 5, 0);
        Due.is("6 to 9: 7 leaves 2", x.trial(0, 0), 7);
        x.see(0, 0, 9, 1);
        Due.is("only 9: all leave it", x.trial(0, 0), 0);
        x.see(0, 0, 9, 0);
        Due.is("nothing is left", x.trial(0, 0), NONE);
        Due.is("thing", x.trial(3, 0), UNKNOWN);
        Due.is("rod", x.trial(0, 2), UNKNOWN);
        Due.is("thing -1", x.trial(-1, 0), UNKNOWN);
        Due.is("rod -1", x.trial(0, -1), UNKNOWN);
        Due.is("nothing is seen by it", x.count(7), 3);
        x.cut(1);
        x.drop(1);
        Due.is("cut ones, too", x.trial(1, 1), 4);
    }

    private static void promise23Evenings() {
        HungMobile x = Due.hung("1*2*;b1,d1");
        // SEED 1: 1103527590, drawn 16838: 0 of 2; then 377401575, drawn 5758: 0 of 2.
        Due.is("seed 1", x.evenings(1, 1, 2), 377401575);
        Due.is("no exchange: a bead, and a drop of 1", x.evenings(1, 1, 1), TOLD + 1);
        Due.is("none level", x.evenings(1, 1, 0), 0);
        Due.is("seed 0", x.evenings(1, 0, 2), next(next(0)));
        Due.is("greatest seed", x.evenings(60, MOST, 2), seedBehind(120, MOST));
        Due.is("nothing is done", x.count(5) * 10 + x.rod(0, 2), 10);
        HungMobile three = Due.hung(THREE);
        evensLike(three, 60, 5);
        three.cut(1);
        evensLike(three, 40, 99);
        three.drop(2);
        evensLike(three, 25, 1234567);
        evensLike(Due.hung("1*11,1*12,1*13,1*14,1*1*;d1,d2,d3,b1,o1,f0"), 60, 77);
        for (int what : new int[] {-1, 3, LEAST, MOST}) {
            Due.is("what " + what, x.evenings(1, 0, what), OUTSIDE);
        }
        for (int times : new int[] {0, -1, 61, LEAST, MOST}) {
            Due.is("times " + times, x.evenings(times, 0, 0), OUTSIDE);
        }
        Due.is("seed -1", x.evenings(1, -1, 0), OUTSIDE);
        Due.is("seed least", x.evenings(1, LEAST, 0), OUTSIDE);
        Due.is("outside comes first", new HungMobile().evenings(0, 0, 0), OUTSIDE);
    }

    private static long next(long seed) {
        return (1103515245L * seed + 12345L) % (1L << 31);
    }

    private static long seedBehind(int draws, long seed) {
        long now = seed;
        for (int i = 0; i < draws; i++) {
            now = next(now);
        }
        return now;
    }

    /** Does what EVENINGS would, and goes back. */
    private static void evensLike(HungMobile x, int times, int first) {
        int many = x.evenings(times, first, 0);
        int tilt = x.evenings(times, first, 1);
        int last = x.evenings(times, first, 2);
        int things = x.count(1);
        x.image();
        long seed = first;
        int level = 0;
        for (int i = 0; i < times; i++) {
            seed = next(seed);
            int one = (int) (seed / 65536 % things);
            seed = next(seed);
            int other = (int) (seed / 65536 % things);
            x.exchange(one, other);
            x.hour();
            level += x.count(3);
        }
        Due.is("evenings level", many, level);
        Due.is("evenings tilt", tilt, x.rod(0, 6));
        Due.is("evenings seed", last, seed);
        x.restore();
    }

    private static void promise24Image() {
        HungMobile x = Due.hung(THREE);
        Due.is("image", x.image(), 0);
        x.hour();
        Due.is("image", x.image(), 1);
        x.hour();
        x.hour();
        Due.is("the latest", x.restore(), 1);
        Due.is("hours", x.count(5), 1);
        Due.is("image", x.image(), 1);
        Due.is("no image of none", new HungMobile().image(), STATE);
    }

    private static void promise25Restore() {
        HungMobile x = Due.hung(THREE);
        Due.is("none kept", x.restore(), STATE);
        x.move(0, 1);
        x.move(1, 2);
        x.change(0, 1, 5);
        x.exchange(0, 3);
        x.cut(2);
        x.drop(1);
        x.hour();
        x.see(0, 0, 3, 1);
        Due.is("6 by a bell of 3", x.thing(0, 6), 1 << 3);
        long then = x.digest();
        x.image();
        x.move(0, 2);
        x.move(1, 1);
        x.change(0, 2, 1);
        x.exchange(0, 1);
        x.mend();
        x.cut(1);
        x.drop(2);
        x.hour();
        x.forget();
        x.see(1, 1, 4, 2);
        x.see(1, 1, 5, 2);
        Due.holds("all is otherwise", x.digest() != then);
        Due.is("restore", x.restore(), 1);
        Due.is("all is as it was", x.digest(), then);
        x.mend();
        x.forget();
        Due.is("restore again", x.restore(), 1);
        Due.is("all is as it was", x.digest(), then);
        x.lay(0);
        Due.write(x, "1*");
        Due.is("page and lay() are not kept", x.restore() * 100 + x.count(8) * 10 + x.count(10), 121);
        x.blank();
        Due.write(x, THREE);
        x.mobile();
        Due.is("another mobile", x.restore(), STATE);
        x.image();
        Due.is("a new image", x.restore(), 0);
        Due.is("mobiles read", x.count(9), 2);
    }

    private static void promise26Count() {
        HungMobile x = Due.hung("1*11,1*12,1*1*;b4,b2,b1,d1");
        int[] first = {3, 4, 3, 0, 4, 0, TOLD + 9, 0, 0, 1, 0};
        countsAre(x, first);
        x.hour();
        int[] second = {3, 4, 3, 3, 4, 1, TOLD + 8, 0, 0, 1, 0};
        countsAre(x, second);
        x.drop(2);
        x.cut(2);
        x.cut(1);
        x.see(0, 0, 0, 0);
        x.lay(0);
        x.letter(1);
        int[] third = {3, 4, 2, 1, 1, 1, TOLD + 4, 1, 1, 1, 1};
        countsAre(x, third);
        for (int what : new int[] {-1, 11, LEAST, MOST}) {
            Due.is("count " + what, x.count(what), OUTSIDE);
        }
    }

    private static void countsAre(HungMobile x, int[] due) {
        for (int what = 0; what <= 10; what++) {
            Due.is("count " + what, x.count(what), due[what]);
        }
    }

    private static void promise27Digest() {
        digestIs(new HungMobile(), "");
        HungMobile page = new HungMobile();
        Due.write(page, "7*x");
        digestIs(page, "7*x");
        HungMobile x = Due.hung(THREE);
        digestIs(x, "");
        x.hour();
        x.see(1, 0, 3, 0);
        x.lay(0);
        Due.write(x, "12");
        digestIs(x, "12");
        x.drop(1);
        x.cut(3);
        digestIs(x, "12");
        x.mend();
        x.exchange(0, 3);
        digestIs(x, "12");
        HungMobile level = Due.hung("1*1*;b1,b1");
        digestIs(level, "");
        Due.is("a digest does nothing", level.digest(), level.digest());
    }

    private static void digestIs(HungMobile x, String letters) {
        long told = x.digest();
        long h = 1303;
        for (int rod = 0; rod < x.count(0); rod++) {
            for (int what = 0; what <= 10; what++) {
                h = 31 * h + x.rod(rod, what);
            }
        }
        for (int thing = 0; thing < x.count(1); thing++) {
            for (int what = 0; what <= 6; what++) {
                h = 31 * h + x.thing(thing, what);
            }
            h = 31 * h + x.trial(thing, 0);
        }
        if (x.count(0) > 0) {
            h = 31 * h + x.best();
            h = 31 * h + x.even();
            h = 31 * h + x.odds(0);
            h = 31 * h + x.odds(1);
        }
        for (int i = 0; i < letters.length(); i++) {
            h = 31 * h + letters.charAt(i);
        }
        for (int what = 0; what <= 10; what++) {
            h = 31 * h + x.count(what);
        }
        Due.is("digest", told, h);
        Due.is("digest again", x.digest(), h);
    }

    private static void refusalsChangeNothing() {
        HungMobile x = Due.hung(THREE);
        x.image();
        x.cut(0);
        x.drop(1);
        for (int i = 0; i < 6; i++) {
            x.see(0, 0, i, 2);
        }
        Due.write(x, "1*1*;b1,b1,");
        long then = x.digest();
        x.letter(0);
        x.mobile();
        x.rod(3, 0);
        x.thing(4, 0);
        x.as(0, 5);
        x.exchange(0, 1);
        x.exchange(1, 1);
        x.move(0, 0);
        x.move(0, 3);
        x.cut(0);
        x.drop(1);
        x.drop(0);
        x.change(0, 5, 0);
        x.change(0, 0, 10);
        x.lay(2);
        x.odds(2);
        x.see(0, 0, 0, 0);
        x.trial(4, 0);
        x.evenings(0, 0, 0);
        x.count(11);
        x.best();
        x.even();
        x.evenings(60, 1, 0);
        Due.is("digest behind refusals and questions", x.digest(), then);
        Due.is("the image is kept still", x.restore(), 0);
    }
}
