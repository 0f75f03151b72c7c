/** Counts and prints the answers that are not as due. */
final class Due {
    private static int wrong = 0;
    private static int asked = 0;

    private Due() {
    }

    static void is(String call, long got, long want) {
        asked++;
        if (got != want) {
            wrong++;
            System.out.println(call + " answered " + got + ", due is " + want);
        }
    }

    static void holds(String what, boolean so) {
        is(what, so ? 1 : 0, 1);
    }

    static void write(HungMobile x, String text) {
        for (int i = 0; i < text.length(); i++) {
            is("letter of " + text, x.letter(text.charAt(i)), i + 1);
        }
    }

    /** A new object whose MOBILE is the text. */
    static HungMobile hung(String text) {
        HungMobile x = new HungMobile();
        write(x, text);
        int rods = text.indexOf(';') / 5 + 1;
        is("mobile " + text, x.mobile(), rods + 1);
        return x;
    }

    static int soFar() {
        return wrong;
    }

    static void end() {
        System.out.println(asked + " answers, " + wrong + " not as due");
        if (wrong != 0) {
            System.exit(1);
        }
    }
}
