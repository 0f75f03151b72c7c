/** Both sides of each edge that the document names for THE PAGE and for what a MOBILE is: promises 2 to 5. */
public final class PageEdgeTest {
    private static final int UNKNOWN = HungMobile.UNKNOWN, OUTSIDE = HungMobile.OUTSIDE, STATE = HungMobile.STATE,
            FULL = HungMobile.FULL, TOLD = HungMobile.TOLD;
    private static final int LEAST = Integer.MIN_VALUE, MOST = Integer.MAX_VALUE;
    private static final String[] CHAINS = {"1*1*;b0,b9", "1*11,1*1*;b0,l9,f0", "1*11,1*12,1*1*;b0,l9,f0,o9",
        "1*11,1*12,1*13,1*1*;b0,l9,f0,o9,d0", "1*11,1*12,1*13,1*14,1*1*;b0,l9,f0,o9,d0,b9"};
    private static final String LONGEST = CHAINS[4];

    public static void main(String[] args) {
        codeIs1To126();
        fullAbove46();
        fullAlsoWithAMobile();
        blankTellsAlsoNone();
        faultOfAnEmptyPage();
        faultOfAPageThatEndsInTheMiddle();
        faultOfAPageThatGoesOn();
        faultByEachCode();
        faultIsTheFirst();
        oneToFiveRods();
        armsAre1To9();
        sizesAre0To9();
        kindsAreTheLetters();
        eachRodIsToldJustOnce();
        eachRodIsToldAhead();
        eachRodThatIsToldIsThere();
        asManyThingsAsPlaces();
        mobileThatIsNone();
        thePageIsEmptyThen();
        anotherOneIsGone();
        anotherOneOfAnySize();
        Due.end();
    }

    private static HungMobile with(String letters) {
        HungMobile x = new HungMobile();
        Due.write(x, letters);
        return x;
    }

    /** No fault, and it is a MOBILE. */
    private static void reads(String text, int things) {
        HungMobile x = with(text);
        Due.is("fault of " + text, x.fault(), text.length());
        Due.is("mobile " + text, x.mobile(), things);
    }

    /** No MOBILE; the letter at the place is the first that none has, or there are too few. */
    private static void stops(String text, int place) {
        HungMobile x = with(text);
        Due.is("fault of " + text, x.fault(), place);
        Due.is("mobile " + text, x.mobile(), STATE);
        Due.is("letters of " + text, x.count(8), text.length());
    }

    // Promise 2: "OUTSIDE: code (1 to 126)"
    private static void codeIs1To126() {
        for (int code = -200; code <= 400; code++) {
            Due.is("letter " + code, new HungMobile().letter(code), code >= 1 && code <= 126 ? 1 : OUTSIDE);
        }
        for (int code : new int[] {LEAST, LEAST + 1, 65536 + 42, -65536 + 42, MOST - 1, MOST}) {
            Due.is("letter " + code, new HungMobile().letter(code), OUTSIDE);
        }
    }

    // Promise 2: "FULL: above 46"
    private static void fullAbove46() {
        HungMobile x = new HungMobile();
        for (int round = 0; round < 2; round++) {
            for (int letters = 1; letters <= 46; letters++) {
                Due.is("letter number " + letters, x.letter(letters), letters);
            }
            Due.is("letter number 47", x.letter(1), FULL);
            Due.is("letter number 47 again", x.letter(126), FULL);
            Due.is("letter number 47, outside", x.letter(0), OUTSIDE);
            Due.is("letters", x.count(8), 46);
            Due.is("blank", x.blank(), 46);
        }
    }

    private static void fullAlsoWithAMobile() {
        HungMobile x = Due.hung(LONGEST);
        Due.write(x, LONGEST);
        for (int letters = 43; letters <= 46; letters++) {
            Due.is("letter number " + letters, x.letter('b'), letters);
        }
        Due.is("letter number 47", x.letter('b'), FULL);
        Due.is("fault", x.fault(), 42);
        Due.is("mobile", x.mobile(), STATE);
        Due.is("things of the old one", x.count(1), 6);
    }

    // Promise 3: how many letters THE PAGE had: also when there is none
    private static void blankTellsAlsoNone() {
        HungMobile x = new HungMobile();
        Due.is("blank at first", x.blank(), 0);
        Due.is("blank again", x.blank(), 0);
        x.letter(1);
        Due.is("blank of one", x.blank(), 1);
        Due.is("blank of none", x.blank(), 0);
        x.letter(127);
        Due.is("a refused letter is none", x.blank(), 0);
        Due.write(x, "1*1*;b1,b1");
        x.mobile();
        Due.is("behind mobile", x.blank(), 0);
        Due.is("the mobile stays", x.count(1), 2);
        Due.write(x, "1*1*;b1,b");
        x.mobile();
        Due.is("behind a refused mobile", x.blank(), 9);
        Due.is("the mobile stays", x.count(1), 2);
        Due.is("empty", x.fault(), 0);
    }

    // Promise 4: "how many letters it has, if there is none"
    private static void faultOfAnEmptyPage() {
        Due.is("fault at first", new HungMobile().fault(), 0);
        HungMobile x = Due.hung(LONGEST);
        Due.is("fault behind mobile", x.fault(), 0);
        x.letter('x');
        Due.is("fault at place 0", x.fault(), 0);
        x.blank();
        Due.is("fault behind blank", x.fault(), 0);
        x.letter('1');
        Due.is("the first letter is none", x.fault(), 1);
    }

    private static void faultOfAPageThatEndsInTheMiddle() {
        for (String whole : AllMobiles.whole()) {
            HungMobile x = new HungMobile();
            for (int letters = 0; letters < whole.length(); letters++) {
                Due.is("fault of a part of " + whole, x.fault(), letters);
                Due.is("a part of " + whole, x.mobile(), STATE);
                x.letter(whole.charAt(letters));
            }
            Due.is("fault of " + whole, x.fault(), whole.length());
            Due.holds("a whole one, " + whole, x.mobile() > 0);
        }
    }

    private static void faultOfAPageThatGoesOn() {
        for (String whole : CHAINS) {
            for (int code = 1; code <= 126; code++) {
                stops(whole + (char) code, whole.length());
            }
            String more = whole + ",b1,b2";
            stops(more.substring(0, Math.min(46, more.length())), whole.length());
        }
    }

    private static void faultByEachCode() {
        for (String whole : new String[] {LONGEST, "1*1*;b0,b9", "1311,121*,1*1*,1*1*;l1,f1,o1,d1,b1",
            "9412,131*,1*1*,1*1*,1*1*;b1,b1,b1,b1,b1,b1"}) {
            for (int place = 0; place < whole.length(); place++) {
                for (int code = 1; code <= 126; code++) {
                    String text = whole.substring(0, place) + (char) code;
                    Due.is("fault of " + text, with(text).fault(), AllMobiles.faultOf(text));
                }
            }
        }
    }

    private static void faultIsTheFirst() {
        stops("1*1*;b1,x1,y1", 8);
        stops("x*1*;b1,b1", 0);
        stops("1xx*;b1,b1", 1);
        stops("1*1*;b1,b1xx", 10);
        stops(",,,,", 0);
    }

    // "one to five RODS"
    private static void oneToFiveRods() {
        stops(";b1,b1", 0);
        stops(",1*1*;b1,b1", 0);
        for (int rods = 1; rods <= 5; rods++) {
            reads(CHAINS[rods - 1], rods + 1);
            stops(CHAINS[rods - 1].substring(0, 5 * rods - 1) + ",", 5 * rods - 1);
        }
        stops("1*11,1*12,1*13,1*14,1*15", 23);
        stops("1*11,1*12,1*13,1*14,151*", 21);
        stops("15", 1);
        stops("16", 1);
        stops("19", 1);
        stops("1*15", 3);
        reads("1411,121*,131*,1*1*,1*1*;b1,b1,b1,b1,b1,b1", 6);
    }

    // "how long its LEFT arm is (1 to 9)", "its RIGHT arm is (1 to 9)"
    private static void armsAre1To9() {
        for (char arm = '/'; arm <= ':'; arm++) {
            boolean isArm = arm >= '1' && arm <= '9';
            for (int place : new int[] {0, 2, 5, 7, 20, 22}) {
                String text = LONGEST.substring(0, place) + arm + LONGEST.substring(place + 1);
                if (isArm) {
                    reads(text, 6);
                } else {
                    stops(text, place);
                }
            }
        }
        HungMobile x = Due.hung("1*91,9*1*;b1,b1,b1");
        Due.is("arms", x.rod(0, 0) * 1000 + x.rod(0, 1) * 100 + x.rod(1, 0) * 10 + x.rod(1, 1), 1991);
        stops("11*1*;b1,b1", 2);
        stops("1*10*;b1,b1", 3);
    }

    // "a digit, its SIZE (0 to 9)"
    private static void sizesAre0To9() {
        for (char size = '/'; size <= ':'; size++) {
            for (int thing = 0; thing < 6; thing++) {
                int place = 26 + 3 * thing;
                String text = LONGEST.substring(0, place) + size + LONGEST.substring(place + 1);
                if (size >= '0' && size <= '9') {
                    HungMobile x = Due.hung(text);
                    Due.is("size in " + text, x.thing(thing, 1), size - '0');
                } else {
                    stops(text, place);
                }
            }
        }
        stops("1*1*;b10,b1", 7);
        stops("1*1*;b,b1", 6);
        stops("1*1*;b-1,b1", 6);
    }

    // KINDS are told by the letter: "b", "l", "f", "o", "d"
    private static void kindsAreTheLetters() {
        for (int code = 1; code <= 126; code++) {
            int kind = "blfod".indexOf(code);
            String first = "1*1*;" + (char) code + "3,b1";
            String last = "1*1*;b1," + (char) code + "3";
            if (kind >= 0) {
                Due.is("kind in " + first, Due.hung(first).thing(0, 0), kind);
                Due.is("kind in " + last, Due.hung(last).thing(1, 0), kind);
            } else {
                stops(first, 5);
                stops(last, 8);
            }
        }
    }

    // "each ROD but ROD 0, which hangs from above, is told just once"
    private static void eachRodIsToldJustOnce() {
        stops("10", 1);
        stops("1*10", 3);
        stops("1*11,10", 6);
        stops("1111", 3);
        stops("1211,1*12", 8);
        stops("1211,121*", 6);
        stops("1112,1*12", 8);
        stops("1*11,1213,121*", 11);
        reads("1211,1*1*,1*1*;b1,b1,b1,b1", 4);
        reads("1112,1*1*,1*1*;b1,b1,b1,b1", 4);
    }

    // "ahead of where it begins"
    private static void eachRodIsToldAhead() {
        stops("1*11,11", 6);
        stops("1*11,1*11", 8);
        stops("1*11,1*12,12", 11);
        stops("1*11,1*12,1*12", 13);
        stops("1*11,1*12,11", 11);
        stops("1*11,1*12,1*13,1*14,14", 21);
        reads("1*11,121*,1*1*;b1,b1,b1,b1", 4);
        stops("1*12", 3);
        stops("131*", 3);
        stops("1411,1*1*", 8);
    }

    // "and each one that is told is there"
    private static void eachRodThatIsToldIsThere() {
        stops("1*11;", 4);
        stops("1*11;b1", 4);
        stops("1112,1*1*;", 9);
        stops("1211,1*1*;", 9);
        stops("1*11,1*12,1*1*,", 14);
        stops("1*11,1*12,1*13,1*14;", 19);
        HungMobile x = with("1*11,1*1*");
        Due.is("a rod that is told, to come", x.fault(), 9);
        x.letter(';');
        Due.is("all that are told were", x.fault(), 10);
    }

    // "as many THINGS as there are PLACES"
    private static void asManyThingsAsPlaces() {
        for (int rods = 1; rods <= 5; rods++) {
            String whole = CHAINS[rods - 1];
            String fewer = whole.substring(0, whole.length() - 3);
            stops(fewer, fewer.length());
            stops(fewer + ",", fewer.length() + 1);
            stops(fewer + ";", fewer.length());
            reads(whole, rods + 1);
            stops(whole + ",", whole.length());
            stops(whole + (rods < 5 ? ",b1" : ",b1,"), whole.length());
            String no = whole.substring(0, whole.indexOf(';') + 1);
            stops(no, no.length());
            stops(no.substring(0, no.length() - 1), no.length() - 1);
            stops(no + ",", no.length());
            stops(no + ";", no.length());
        }
        HungMobile x = Due.hung(LONGEST);
        for (int thing = 0; thing < 6; thing++) {
            Due.is("kind of thing " + thing, x.thing(thing, 0), thing % 5);
            Due.is("size of thing " + thing, x.thing(thing, 1), thing % 2 * 9);
            Due.is("rod of thing " + thing, x.thing(thing, 4), Math.min(thing, 4));
            Due.is("arm of thing " + thing, x.thing(thing, 5), thing / 5);
        }
    }

    // Promise 5: "STATE: it is none."
    private static void mobileThatIsNone() {
        HungMobile x = new HungMobile();
        Due.is("nothing at all", x.mobile(), STATE);
        Due.is("not read", x.count(9), 0);
        Due.write(x, "1*1*;b1,b1");
        Due.is("read", x.mobile(), 2);
        Due.is("the empty page behind it", x.mobile(), STATE);
        Due.is("read once", x.count(9), 1);
        Due.is("it stays", x.count(1), 2);
        stops("1*1*;b1,b", 9);
        stops("1*1*;b1,b1,", 10);
        stops("1*1* ;b1,b1", 4);
        stops(" 1*1*;b1,b1", 0);
    }

    // Promise 5: "THE PAGE is empty then."
    private static void thePageIsEmptyThen() {
        for (String whole : CHAINS) {
            HungMobile x = Due.hung(whole);
            Due.is("letters", x.count(8), 0);
            Due.is("fault", x.fault(), 0);
            Due.is("the next letter is the first", x.letter('1'), 1);
            Due.is("a part is none", x.mobile(), STATE);
            Due.is("blank", x.blank(), 1);
        }
    }

    // Promise 5: "another one is gone, with all that was"
    private static void anotherOneIsGone() {
        String text = "2112,1*2*,3*1*;b2,l1,o3,d4";
        HungMobile x = Due.hung(text);
        long first = x.digest();
        x.hour();
        x.exchange(0, 3);
        x.move(0, 1);
        x.change(1, 3, 9);
        x.cut(2);
        x.drop(2);
        x.see(0, 0, 9, 0);
        x.image();
        Due.write(x, text);
        Due.is("the same text again", x.mobile(), 4);
        Due.is("hours", x.count(5), 0);
        Due.is("seen", x.count(7), 0);
        Due.is("sizes", x.thing(0, 6), 1023);
        Due.is("restore", x.restore(), STATE);
        Due.is("mend", x.mend(), 0);
        Due.is("forget", x.forget(), 0);
        // All is as at first but how often a MOBILE was read, the last number but one.
        Due.is("digest", x.digest(), first + 31);
    }

    private static void anotherOneOfAnySize() {
        HungMobile x = new HungMobile();
        int read = 0;
        for (int rods : new int[] {5, 1, 3, 2, 4, 1}) {
            Due.write(x, CHAINS[rods - 1]);
            Due.is("things", x.mobile(), rods + 1);
            read++;
            Due.is("rods", x.count(0), rods);
            Due.is("things", x.count(1), rods + 1);
            Due.is("rods there", x.count(2), rods);
            Due.is("things there", x.count(4), rods + 1);
            Due.is("read", x.count(9), read);
            Due.is("the last rod", x.rod(rods - 1, 3), 10 + rods);
            Due.is("the last thing", x.thing(rods, 4), rods - 1);
            Due.is("no rod behind", x.rod(rods, 0), UNKNOWN);
            Due.is("no thing behind", x.thing(rods + 1, 0), UNKNOWN);
            x.cut(rods);
            x.cut(0);
            for (int rod = 1; rod < rods; rod++) {
                x.drop(rod);
            }
            Due.is("all weighs", x.count(6), TOLD);
        }
    }
}
