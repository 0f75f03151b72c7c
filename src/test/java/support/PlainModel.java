import java.util.ArrayList;
import java.util.Arrays;
import java.util.Collections;
import java.util.List;

/** The document once more, as a tree of objects, without care for speed: what HungMobile is held against. */
final class PlainModel {
    private static final int NONE = -1, UNKNOWN = -101, OUTSIDE = -102, STATE = -103, FULL = -104;

    /** A THING or a ROD; a ROD has arms. */
    private static final class Node {
        boolean cut;
        char kind;
        int size;
        int[] lengths;
        Node[] ends;
        Node above;

        boolean isThere() {
            return !cut && (above == null || above.isThere());
        }
    }

    private record Sight(int thing, int rod, int bead, int how) {
    }

    private String page = "";
    private List<Node> rods = new ArrayList<>();
    private List<Node> things = new ArrayList<>();
    private List<int[]> places = new ArrayList<>();
    private List<Sight> seen = new ArrayList<>();
    private int hours;
    private PlainModel kept;
    private int reads;
    private int lays;

    int letter(int code) {
        if (code < 1 || code > 126) {
            return OUTSIDE;
        }
        if (page.length() == 46) {
            return FULL;
        }
        page += (char) code;
        return page.length();
    }

    int blank() {
        int had = page.length();
        page = "";
        return had;
    }

    int fault() {
        return AllMobiles.faultOf(page);
    }

    int mobile() {
        if (!AllMobiles.isWhole(page)) {
            return STATE;
        }
        String[] parts = page.split(";");
        String[] rodTexts = parts[0].split(",");
        String[] thingTexts = parts[1].split(",");
        rods = new ArrayList<>();
        things = new ArrayList<>();
        places = new ArrayList<>();
        seen = new ArrayList<>();
        hours = 0;
        kept = null;
        for (String text : rodTexts) {
            Node rod = new Node();
            rod.lengths = new int[] {text.charAt(0) - '0', text.charAt(2) - '0'};
            rod.ends = new Node[2];
            rods.add(rod);
        }
        for (int rod = 0; rod < rodTexts.length; rod++) {
            for (int side = 0; side < 2; side++) {
                char end = rodTexts[rod].charAt(1 + 2 * side);
                Node node;
                if (end == '*') {
                    node = new Node();
                    String text = thingTexts[things.size()];
                    node.kind = text.charAt(0);
                    node.size = text.charAt(1) - '0';
                    things.add(node);
                    places.add(new int[] {rod, side});
                } else {
                    node = rods.get(end - '0');
                }
                hang(node, rod, side);
            }
        }
        page = "";
        reads++;
        return things.size();
    }

    private void hang(Node node, int rod, int side) {
        rods.get(rod).ends[side] = node;
        node.above = rods.get(rod);
    }

    private static int weightOf(char kind, int size, int hours) {
        return switch (kind) {
            case 'b' -> size;
            case 'l' -> size + size;
            case 'o' -> 0 - size;
            case 'd' -> Math.max(size + size - hours, 0);
            default -> 0;
        };
    }

    private static int pull(Node node, int hours) {
        return node.cut ? 0 : own(node, hours);
    }

    private static int own(Node node, int hours) {
        return node.ends == null ? weightOf(node.kind, node.size, hours) : pull(node.ends[0], hours) + pull(node.ends[1], hours);
    }

    private static int tilt(Node rod, int hours) {
        return pull(rod.ends[1], hours) * rod.lengths[1] - pull(rod.ends[0], hours) * rod.lengths[0];
    }

    private List<Node> rodsThere() {
        return rods.stream().filter(Node::isThere).toList();
    }

    private int level(int at) {
        return (int) rodsThere().stream().filter(r -> tilt(r, at) == 0).count();
    }

    private boolean isRod(int n) {
        return n >= 0 && n < rods.size();
    }

    private boolean isThing(int n) {
        return n >= 0 && n < things.size();
    }

    private int told(Node node) {
        return node.ends != null ? rods.indexOf(node) : 10 + things.indexOf(node);
    }

    int rod(int n, int what) {
        if (!isRod(n)) {
            return UNKNOWN;
        }
        Node rod = rods.get(n);
        return switch (what) {
            case 0, 1 -> rod.lengths[what];
            case 2, 3 -> told(rod.ends[what - 2]);
            case 4, 5 -> 10000 + pull(rod.ends[what - 4], hours);
            case 6 -> 10000 + tilt(rod, hours);
            case 7 -> tilt(rod, hours) == 0 ? 1 : 0;
            case 8 -> rod.isThere() ? 1 : 0;
            case 9 -> hook(rod);
            case 10 -> add(rod);
            default -> OUTSIDE;
        };
    }

    private int hook(Node rod) {
        int[] was = rod.lengths;
        int found = NONE;
        for (int left = was[0] + was[1] - 1; left >= 1; left--) {
            rod.lengths = new int[] {left, was[0] + was[1] - left};
            if (tilt(rod, hours) == 0) {
                found = left;
            }
        }
        rod.lengths = was;
        return found;
    }

    private int add(Node rod) {
        int tilt = tilt(rod, hours);
        if (tilt == 0) {
            return 0;
        }
        int arm = tilt < 0 ? rod.lengths[1] : rod.lengths[0];
        int size = Math.abs(tilt) / arm;
        if (Math.abs(tilt) % arm != 0 || size > 30) {
            return 99;
        }
        return tilt < 0 ? size : -size;
    }

    int thing(int n, int what) {
        if (!isThing(n)) {
            return UNKNOWN;
        }
        Node thing = things.get(n);
        return switch (what) {
            case 0 -> "blfod".indexOf(thing.kind);
            case 1 -> thing.size;
            case 2 -> 10000 + own(thing, hours);
            case 3 -> thing.cut ? 1 : 0;
            case 4 -> rods.indexOf(thing.above);
            case 5 -> thing.above.ends[0] == thing ? 0 : 1;
            case 6 -> sizes(n, List.of());
            default -> OUTSIDE;
        };
    }

    private boolean isSoWith(int size, Sight sight) {
        Node rod = rods.get(sight.rod);
        int left = weightOf(things.get(sight.thing).kind, size, hours) * rod.lengths[0];
        int right = sight.bead * rod.lengths[1];
        return sight.how == (left > right ? 0 : left == right ? 1 : 2);
    }

    private int sizes(int thing, List<Sight> more) {
        List<Sight> all = new ArrayList<>(seen);
        all.addAll(more);
        int bits = 0;
        for (int size = 0; size <= 9; size++) {
            final int s = size;
            if (all.stream().filter(x -> x.thing == thing).allMatch(x -> isSoWith(s, x))) {
                bits += 1 << size;
            }
        }
        return bits;
    }

    int as(int n, int kind) {
        if (!isThing(n)) {
            return UNKNOWN;
        }
        if (kind < 0 || kind > 4) {
            return OUTSIDE;
        }
        String are = switch (things.get(n).kind) {
            case 'l' -> "bl";
            case 'f' -> "bf";
            case 'o' -> "bo";
            case 'd' -> "bld";
            default -> "b";
        };
        return are.indexOf("blfod".charAt(kind)) >= 0 ? n : NONE;
    }

    int hour() {
        if (rods.isEmpty()) {
            return STATE;
        }
        return hours == 999 ? FULL : ++hours;
    }

    private void swap(int one, int other) {
        int[] from = placeOf(one);
        int[] to = placeOf(other);
        Node first = things.get(one);
        Node second = things.get(other);
        hang(second, from[0], from[1]);
        hang(first, to[0], to[1]);
    }

    private int[] placeOf(int thing) {
        for (int[] place : places) {
            if (rods.get(place[0]).ends[place[1]] == things.get(thing)) {
                return place;
            }
        }
        throw new IllegalStateException("a thing hangs nowhere");
    }

    int exchange(int one, int other) {
        if (!isThing(one) || !isThing(other) || one == other) {
            return UNKNOWN;
        }
        if (things.get(one).cut || things.get(other).cut) {
            return STATE;
        }
        swap(one, other);
        return level(hours);
    }

    int move(int n, int left) {
        if (!isRod(n)) {
            return UNKNOWN;
        }
        int[] lengths = rods.get(n).lengths;
        int was = lengths[0];
        int right = lengths[0] + lengths[1] - left;
        if (left < 1 || left > 17 || right < 1) {
            return OUTSIDE;
        }
        rods.get(n).lengths = new int[] {left, right};
        return was;
    }

    int cut(int n) {
        if (!isThing(n)) {
            return UNKNOWN;
        }
        if (things.get(n).cut) {
            return STATE;
        }
        things.get(n).cut = true;
        return level(hours);
    }

    int drop(int n) {
        if (!isRod(n) || n == 0) {
            return UNKNOWN;
        }
        if (rods.get(n).cut) {
            return STATE;
        }
        rods.get(n).cut = true;
        return rodsThere().size();
    }

    int mend() {
        int were = 0;
        List<Node> all = new ArrayList<>(rods);
        all.addAll(things);
        for (Node node : all) {
            if (node.cut) {
                were++;
                node.cut = false;
            }
        }
        return were;
    }

    int change(int n, int kind, int size) {
        if (!isThing(n)) {
            return UNKNOWN;
        }
        if (kind < 0 || kind > 4 || size < 0 || size > 9) {
            return OUTSIDE;
        }
        int was = "blfod".indexOf(things.get(n).kind);
        things.get(n).kind = "blfod".charAt(kind);
        things.get(n).size = size;
        return was;
    }

    int best() {
        if (rods.isEmpty()) {
            return STATE;
        }
        int now = level(hours);
        int most = now;
        int found = NONE;
        for (int code = 0; code < 100; code++) {
            int one = code / 10;
            int other = code % 10;
            if (one < other && isThing(other) && !things.get(one).cut && !things.get(other).cut) {
                swap(one, other);
                if (level(hours) > most) {
                    most = level(hours);
                    found = code;
                }
                swap(one, other);
            }
        }
        return found;
    }

    /** Every order, first by numbers first: the THING at each PLACE, NONE where one is CUT. */
    private List<int[]> orders() {
        int[] start = new int[places.size()];
        List<Integer> free = new ArrayList<>();
        for (int place = 0; place < start.length; place++) {
            Node there = rods.get(places.get(place)[0]).ends[places.get(place)[1]];
            start[place] = there.cut ? NONE : 0;
            if (!there.cut) {
                free.add(things.indexOf(there));
            }
        }
        Collections.sort(free);
        List<int[]> all = new ArrayList<>();
        fill(start, 0, free, all);
        return all;
    }

    private static void fill(int[] order, int place, List<Integer> free, List<int[]> all) {
        if (place == order.length) {
            all.add(order.clone());
        } else if (order[place] == NONE) {
            fill(order, place + 1, free, all);
        } else {
            for (Integer thing : free) {
                List<Integer> rest = new ArrayList<>(free);
                rest.remove(thing);
                order[place] = thing;
                fill(order, place + 1, rest, all);
            }
            order[place] = 0;
        }
    }

    private void layAs(int[] order) {
        for (int place = 0; place < order.length; place++) {
            if (order[place] != NONE) {
                hang(things.get(order[place]), places.get(place)[0], places.get(place)[1]);
            }
        }
    }

    private int[] laidNow() {
        int[] order = new int[places.size()];
        for (int thing = 0; thing < things.size(); thing++) {
            order[places.indexOf(placeOf(thing))] = thing;
        }
        return order;
    }

    int lay(int what) {
        if (!List.of(0, 1, 10, 11, 12, 13, 14, 15).contains(what)) {
            return OUTSIDE;
        }
        if (rods.isEmpty() || lays == 20) {
            return STATE;
        }
        lays++;
        int[] was = laidNow();
        int[] best = null;
        int many = 0;
        int much = 0;
        for (int[] order : orders()) {
            layAs(order);
            int level = level(hours);
            int tilts = rodsThere().stream().mapToInt(r -> Math.abs(tilt(r, hours))).sum();
            if (best == null || level > many || (level == many && tilts < much)) {
                best = order;
                many = level;
                much = tilts;
            }
        }
        layAs(was);
        if (what < 10) {
            return what == 0 ? many : much;
        }
        return what - 10 < best.length ? best[what - 10] : NONE;
    }

    int even() {
        if (rods.isEmpty()) {
            return STATE;
        }
        for (int later = 0; later <= 20; later++) {
            if (level(hours + later) == rodsThere().size()) {
                return later;
            }
        }
        return NONE;
    }

    int odds(int what) {
        if (what < 0 || what > 1) {
            return OUTSIDE;
        }
        if (rods.isEmpty()) {
            return STATE;
        }
        int[] was = laidNow();
        List<int[]> orders = orders();
        int above = 0;
        for (int[] order : orders) {
            layAs(order);
            above += level(hours) == rodsThere().size() ? 1 : 0;
        }
        layAs(was);
        int common = java.math.BigInteger.valueOf(above).gcd(java.math.BigInteger.valueOf(orders.size())).intValue();
        return (what == 0 ? above : orders.size()) / common;
    }

    int see(int thing, int rod, int bead, int how) {
        if (!isThing(thing) || !isRod(rod)) {
            return UNKNOWN;
        }
        if (bead < 0 || bead > 9 || how < 0 || how > 2) {
            return OUTSIDE;
        }
        if (seen.size() == 6) {
            return FULL;
        }
        seen.add(new Sight(thing, rod, bead, how));
        return seen.size();
    }

    int forget() {
        int was = seen.size();
        seen.clear();
        return was;
    }

    int trial(int thing, int rod) {
        if (!isThing(thing) || !isRod(rod)) {
            return UNKNOWN;
        }
        if (sizes(thing, List.of()) == 0) {
            return NONE;
        }
        int[] worst = new int[10];
        for (int bead = 0; bead <= 9; bead++) {
            for (int how = 0; how <= 2; how++) {
                int left = Integer.bitCount(sizes(thing, List.of(new Sight(thing, rod, bead, how))));
                worst[bead] = Math.max(worst[bead], left);
            }
        }
        int fewest = Arrays.stream(worst).min().getAsInt();
        int bead = 0;
        while (worst[bead] != fewest) {
            bead++;
        }
        return bead;
    }

    int evenings(int times, int seed, int what) {
        if (times < 1 || times > 60 || seed < 0 || what < 0 || what > 2) {
            return OUTSIDE;
        }
        if (rods.isEmpty()) {
            return STATE;
        }
        PlainModel dream = copy();
        long now = seed;
        int level = 0;
        for (int i = 0; i < times; i++) {
            now = (now * 1103515245L + 12345L) % 2147483648L;
            int one = (int) (now / 65536 % things.size());
            now = (now * 1103515245L + 12345L) % 2147483648L;
            int other = (int) (now / 65536 % things.size());
            if (one != other && !things.get(one).cut && !things.get(other).cut) {
                dream.swap(one, other);
            }
            dream.hours++;
            level += dream.level(dream.hours);
        }
        return what == 0 ? level : what == 1 ? 10000 + tilt(dream.rods.get(0), dream.hours) : (int) now;
    }

    private PlainModel copy() {
        PlainModel copy = new PlainModel();
        copy.hours = hours;
        copy.seen = new ArrayList<>(seen);
        copy.places = places;
        for (Node rod : rods) {
            Node node = new Node();
            node.cut = rod.cut;
            node.lengths = rod.lengths.clone();
            node.ends = new Node[2];
            copy.rods.add(node);
        }
        for (Node thing : things) {
            Node node = new Node();
            node.cut = thing.cut;
            node.kind = thing.kind;
            node.size = thing.size;
            copy.things.add(node);
        }
        for (int rod = 0; rod < rods.size(); rod++) {
            for (int side = 0; side < 2; side++) {
                int end = told(rods.get(rod).ends[side]);
                copy.hang(end < 10 ? copy.rods.get(end) : copy.things.get(end - 10), rod, side);
            }
        }
        return copy;
    }

    int image() {
        if (rods.isEmpty()) {
            return STATE;
        }
        kept = copy();
        return hours;
    }

    int restore() {
        if (kept == null) {
            return STATE;
        }
        PlainModel again = kept.copy();
        rods = again.rods;
        things = again.things;
        seen = again.seen;
        hours = again.hours;
        return hours;
    }

    int count(int what) {
        return switch (what) {
            case 0 -> rods.size();
            case 1 -> things.size();
            case 2 -> rodsThere().size();
            case 3 -> level(hours);
            case 4 -> (int) things.stream().filter(Node::isThere).count();
            case 5 -> hours;
            case 6 -> 10000 + things.stream().filter(Node::isThere).mapToInt(t -> own(t, hours)).sum();
            case 7 -> seen.size();
            case 8 -> page.length();
            case 9 -> reads;
            case 10 -> lays;
            default -> OUTSIDE;
        };
    }

    long digest() {
        List<Integer> numbers = new ArrayList<>();
        for (int n = 0; n < rods.size(); n++) {
            for (int what = 0; what <= 10; what++) {
                numbers.add(rod(n, what));
            }
        }
        for (int n = 0; n < things.size(); n++) {
            for (int what = 0; what <= 6; what++) {
                numbers.add(thing(n, what));
            }
            numbers.add(trial(n, 0));
        }
        if (!rods.isEmpty()) {
            numbers.addAll(List.of(best(), even(), odds(0), odds(1)));
        }
        page.chars().forEach(numbers::add);
        for (int what = 0; what <= 10; what++) {
            numbers.add(count(what));
        }
        long h = 1303;
        for (int number : numbers) {
            h = h * 31L + number;
        }
        return h;
    }
}
