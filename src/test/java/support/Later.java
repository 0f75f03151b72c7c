import java.util.ArrayList;
import java.util.List;

/** What an object tells from here on: two objects of which all is the same tell the same. */
final class Later {
    /** 0 only asks; 1 goes on from the IMAGE; 2 reads THE PAGE; 3 mends, forgets and blanks; 4 does one of each. */
    static final int WAYS = 5;

    private final HungMobile x;
    private final List<Long> told = new ArrayList<>();

    private Later(HungMobile x) {
        this.x = x;
    }

    static List<Long> tells(HungMobile x, int way) {
        Later later = new Later(x);
        later.goOn(way);
        later.ask();
        return later.told;
    }

    private void add(long answer) {
        told.add(answer);
    }

    private void goOn(int way) {
        switch (way) {
            case 1 -> add(x.restore());
            case 2 -> {
                add(x.fault());
                add(x.mobile());
            }
            case 3 -> {
                add(x.mend());
                add(x.forget());
                add(x.blank());
            }
            case 4 -> doOneOfEach();
            default -> {
            }
        }
    }

    private void doOneOfEach() {
        add(x.letter('7'));
        add(x.exchange(2, 3));
        add(x.exchange(0, 1));
        add(x.move(0, 1));
        add(x.cut(2));
        add(x.drop(2));
        add(x.change(1, 4, 7));
        add(x.see(1, 0, 3, 0));
        add(x.hour());
        add(x.image());
    }

    private void ask() {
        add(x.digest());
        for (int what = 0; what <= 10; what++) {
            add(x.count(what));
        }
        for (int thing = 0; thing < 6; thing++) {
            for (int rod = 0; rod < 5; rod++) {
                add(x.trial(thing, rod));
            }
        }
        for (int what = 0; what <= 2; what++) {
            add(x.evenings(9, 77, what));
        }
        for (int what = 0; what < 16; what++) {
            add(x.lay(what));
        }
        add(x.fault());
        add(x.see(0, 0, 4, 2));
        add(x.hour());
        add(x.digest());
    }
}
