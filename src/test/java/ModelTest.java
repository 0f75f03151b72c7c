import java.util.Random;

/** Long runs of calls by chance, each answer held against PlainModel. */
public final class ModelTest {
    private static final int[] ODD_NUMBERS = {-1, Integer.MIN_VALUE, Integer.MAX_VALUE, 100, 20, 10, 46, -100};

    private final Random random;
    private final Chance chance;
    private final HungMobile x = new HungMobile();
    private final PlainModel model = new PlainModel();
    private final StringBuilder run = new StringBuilder();

    private ModelTest(int seed) {
        random = new Random(seed);
        chance = new Chance(seed);
    }

    public static void main(String[] args) {
        for (int seed = 1; seed <= 400 && Due.soFar() == 0; seed++) {
            new ModelTest(seed).goOn();
        }
        Due.end();
    }

    private void goOn() {
        if (random.nextInt(8) > 0) {
            hang();
        }
        while (run.length() < 6000 && Due.soFar() == 0) {
            step();
        }
        if (Due.soFar() > 0) {
            System.out.println(run);
        }
    }

    private void due(String call, long got, long want) {
        run.append(call).append(' ').append(got).append("; ");
        Due.is(call, got, want);
    }

    private void hang() {
        String letters = chance.mobile();
        due("blank", x.blank(), model.blank());
        for (int i = 0; i < letters.length(); i++) {
            int code = letters.charAt(i);
            due("letter " + (char) code, x.letter(code), model.letter(code));
        }
        due("fault", x.fault(), model.fault());
        due("mobile", x.mobile(), model.mobile());
    }

    private int number(int bound) {
        return random.nextInt(25) == 0 ? ODD_NUMBERS[random.nextInt(ODD_NUMBERS.length)] : random.nextInt(bound);
    }

    private int rod() {
        return number(random.nextInt(6) == 0 ? 6 : Math.max(1, x.count(0)));
    }

    private int thing() {
        return number(random.nextInt(6) == 0 ? 7 : Math.max(1, x.count(1)));
    }

    private void step() {
        switch (random.nextInt(3)) {
            case 0 -> act();
            case 1 -> ask();
            default -> wonder();
        }
    }

    private void act() {
        int a = thing();
        int b = thing();
        int r = rod();
        int n = number(11);
        int k = number(6);
        switch (random.nextInt(20)) {
            case 0, 1 -> due("hour", x.hour(), model.hour());
            case 2, 3 -> due("exchange " + a + " " + b, x.exchange(a, b), model.exchange(a, b));
            case 4, 5 -> due("move " + r + " " + n, x.move(r, n), model.move(r, n));
            case 6, 7 -> due("cut " + a, x.cut(a), model.cut(a));
            case 8, 9 -> due("drop " + r, x.drop(r), model.drop(r));
            case 10 -> due("mend", x.mend(), model.mend());
            case 11, 12 -> due("change " + a + " " + k + " " + n, x.change(a, k, n), model.change(a, k, n));
            case 13, 14 -> due("see " + a + " " + r + " " + n + " " + k / 2, x.see(a, r, n, k / 2), model.see(a, r, n, k / 2));
            case 15 -> due("forget", x.forget(), model.forget());
            case 16 -> due("image", x.image(), model.image());
            case 17 -> due("restore", x.restore(), model.restore());
            case 18 -> due("letter " + n, x.letter(n + 42), model.letter(n + 42));
            default -> {
                if (random.nextInt(8) == 0) {
                    hang();
                } else {
                    due("mobile", x.mobile(), model.mobile());
                    due("blank", x.blank(), model.blank());
                }
            }
        }
    }

    private void ask() {
        int a = thing();
        int r = rod();
        int n = number(12);
        switch (random.nextInt(5)) {
            case 0 -> due("rod " + r + " " + n, x.rod(r, n), model.rod(r, n));
            case 1 -> due("thing " + a + " " + n % 8, x.thing(a, n % 8), model.thing(a, n % 8));
            case 2 -> due("as " + a + " " + n % 6, x.as(a, n % 6), model.as(a, n % 6));
            case 3 -> due("count " + n, x.count(n), model.count(n));
            default -> due("fault", x.fault(), model.fault());
        }
    }

    private void wonder() {
        int a = thing();
        int r = rod();
        int times = number(62);
        int seed = random.nextInt() & (random.nextInt(20) == 0 ? -1 : Integer.MAX_VALUE);
        int what = number(random.nextBoolean() ? 3 : 17);
        switch (random.nextInt(8)) {
            case 0 -> due("best", x.best(), model.best());
            case 1 -> due("lay " + what, x.lay(what), model.lay(what));
            case 2 -> due("even", x.even(), model.even());
            case 3 -> due("odds " + what, x.odds(what), model.odds(what));
            case 4, 5 -> due("trial " + a + " " + r, x.trial(a, r), model.trial(a, r));
            case 6 -> due("evenings " + times + " " + seed + " " + what % 4, x.evenings(times, seed, what % 4), model.evenings(times, seed, what % 4));
            default -> due("digest", x.digest(), model.digest());
        }
    }
}
