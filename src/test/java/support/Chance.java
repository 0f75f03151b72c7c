import java.util.List;
import java.util.Random;

/** MOBILES and things to do with them, by chance. */
final class Chance {
    private final Random random;

    Chance(int seed) {
        random = new Random(seed);
    }

    int below(int bound) {
        return random.nextInt(bound);
    }

    /** Few SIZES, KINDS and lengths in some, so that much is LEVEL; all of them in others. */
    String mobile() {
        List<String> all = AllMobiles.whole();
        String text = all.get(below(below(4) == 0 ? 12 : all.size()));
        boolean few = random.nextBoolean();
        StringBuilder letters = new StringBuilder(text);
        int things = text.indexOf(';');
        for (int i = 0; i < text.length(); i++) {
            if (i < things && i % 5 % 2 == 0 && i % 5 < 4) {
                letters.setCharAt(i, (char) ('1' + below(few ? 2 : 9)));
            } else if (i > things && (i - things) % 3 == 1) {
                letters.setCharAt(i, "bdlfo".charAt(below(few ? 3 : 5)));
            } else if (i > things && (i - things) % 3 == 2) {
                letters.setCharAt(i, (char) ('0' + below(few ? 4 : 10)));
            }
        }
        return letters.toString();
    }

    /** One of what an IMAGE keeps is made otherwise; now and then it is refused. */
    void act(HungMobile x) {
        int thing = below(x.count(1));
        int rod = below(x.count(0));
        switch (below(12)) {
            case 0 -> x.hour();
            case 1, 2 -> x.exchange(thing, below(x.count(1)));
            case 3, 4 -> x.move(rod, 1 + below(10));
            case 5 -> x.cut(thing);
            case 6 -> x.drop(rod);
            case 7 -> x.mend();
            case 8 -> x.change(thing, below(5), below(10));
            case 9, 10 -> x.see(thing, rod, below(10), below(3));
            default -> x.forget();
        }
    }
}
