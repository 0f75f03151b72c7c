import java.util.List;
import java.util.Random;

/** fault() and mobile() against a plain search through every MOBILE there can be. */
public final class FaultTest {
    private static final String SIGNS = "0123456789*,;blfodx";

    public static void main(String[] args) {
        List<String> all = AllMobiles.whole();
        for (String text : all) {
            isRead(text);
        }
        Random random = new Random(20);
        for (int i = 0; i < 60000; i++) {
            StringBuilder text = new StringBuilder(all.get(random.nextInt(all.size())));
            for (int slips = random.nextInt(4); slips > 0; slips--) {
                slip(text, random);
            }
            isRead(text.substring(0, Math.min(46, text.length())));
        }
        System.out.println(all.size() + " ways to hang rods");
        Due.end();
    }

    private static void slip(StringBuilder text, Random random) {
        char sign = SIGNS.charAt(random.nextInt(SIGNS.length()));
        int at = random.nextInt(text.length());
        switch (random.nextInt(5)) {
            case 0:
                text.insert(at, sign);
                break;
            case 1:
                text.setLength(at + 1);
                break;
            default:
                text.setCharAt(at, sign);
        }
    }

    private static void isRead(String text) {
        HungMobile x = new HungMobile();
        for (int i = 0; i < text.length(); i++) {
            x.letter(text.charAt(i));
        }
        Due.is("fault of " + text, x.fault(), AllMobiles.faultOf(text));
        int rods = text.indexOf(';') / 5 + 1;
        Due.is("mobile " + text, x.mobile(), AllMobiles.isWhole(text) ? rods + 1 : HungMobile.STATE);
    }
}
