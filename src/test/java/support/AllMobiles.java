import java.util.ArrayList;
import java.util.HashSet;
import java.util.List;
import java.util.Set;

/** Every text that a MOBILE can have, but for lengths, KINDS and SIZES; from these, by plain search, the first wrong letter. */
final class AllMobiles {
    private static final Set<String> STARTS = new HashSet<>();
    private static final Set<String> WHOLE = new HashSet<>();

    static {
        for (int rods = 1; rods <= 5; rods++) {
            everyWayToTell(rods, new ArrayList<>());
        }
    }

    private AllMobiles() {
    }

    /** Fills the ends of all arms in every way; what is no MOBILE is thrown out only when it is all there. */
    private static void everyWayToTell(int rods, List<Character> ends) {
        if (ends.size() == 2 * rods) {
            if (isTree(rods, ends)) {
                keep(rods, ends);
            }
            return;
        }
        for (char end : "*1234".toCharArray()) {
            if (end == '*' || !ends.contains(end)) {
                ends.add(end);
                everyWayToTell(rods, ends);
                ends.remove(ends.size() - 1);
            }
        }
    }

    private static boolean isTree(int rods, List<Character> ends) {
        for (int rod = 1; rod <= 4; rod++) {
            int arm = ends.indexOf((char) ('0' + rod));
            if (rod < rods ? arm < 0 || arm / 2 >= rod : arm >= 0) {
                return false;
            }
        }
        return true;
    }

    private static void keep(int rods, List<Character> ends) {
        StringBuilder text = new StringBuilder();
        for (int arm = 0; arm < 2 * rods; arm++) {
            text.append(arm % 2 == 0 && arm > 0 ? "," : "").append('1').append(ends.get(arm));
        }
        text.append(';');
        for (int thing = 0; thing <= rods; thing++) {
            text.append(thing > 0 ? "," : "").append("b0");
        }
        WHOLE.add(text.toString());
        for (int length = 0; length <= text.length(); length++) {
            STARTS.add(text.substring(0, length));
        }
    }

    /** The text with each length 1, each KIND b and each SIZE 0; a sign that can be none stays. */
    private static String plain(String text) {
        int things = text.indexOf(';');
        StringBuilder plain = new StringBuilder(text);
        for (int i = 0; i < text.length(); i++) {
            char c = text.charAt(i);
            boolean inRods = things < 0 || i <= things;
            int at = inRods ? i % 5 : (i - things - 1) % 3;
            if (inRods && (at == 0 || at == 2)) {
                plain.setCharAt(i, c >= '1' && c <= '9' ? '1' : '?');
            } else if (!inRods && at == 0) {
                plain.setCharAt(i, "blfod".indexOf(c) >= 0 ? 'b' : '?');
            } else if (!inRods && at == 1) {
                plain.setCharAt(i, Character.isDigit(c) ? '0' : '?');
            }
        }
        return plain.toString();
    }

    static int faultOf(String text) {
        String plain = plain(text);
        for (int length = 1; length <= text.length(); length++) {
            if (!STARTS.contains(plain.substring(0, length))) {
                return length - 1;
            }
        }
        return text.length();
    }

    static boolean isWhole(String text) {
        return WHOLE.contains(plain(text));
    }

    static List<String> whole() {
        List<String> all = new ArrayList<>(WHOLE);
        all.sort(null);
        return all;
    }
}
