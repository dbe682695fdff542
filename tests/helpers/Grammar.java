import java.util.ArrayList;
import java.util.HashMap;
import java.util.HashSet;
import java.util.List;
import java.util.Map;
import java.util.Set;

/**
 * What a law may look like, as rules; a text is followed by all ways that the rules allow at once. A way is the row of
 * what is still to come; capitals are rules (with a figure: how many brackets and ! stand around).
 */
final class Grammar {
    /** The fault of a text; -1: it is a law. */
    static int fault(String text) {
        Set<List<String>> ways = Set.of(List.of("LAW8"));
        for (int at = 0; at < text.length(); at++) {
            ways = behind(ways).get(text.charAt(at));
            if (ways == null) return at;
        }
        return isWhole(ways) ? -1 : text.length();
    }

    /** Of a text that is no fault but that it may end too early: the fault of it with each byte behind it. */
    static int[] faultsBehind(String text) {
        Set<List<String>> ways = Set.of(List.of("LAW8"));
        for (char c : text.toCharArray()) ways = behind(ways).get(c);
        Map<Character, Set<List<String>>> next = behind(ways);
        int[] faults = new int[256];
        for (int b = 0; b < 256; b++) {
            Set<List<String>> then = next.get((char) b);
            faults[b] = then == null ? text.length() : isWhole(then) ? -1 : text.length() + 1;
        }
        return faults;
    }

    private static boolean isWhole(Set<List<String>> ways) {
        for (List<String> way : ways) if (way.isEmpty()) return true;
        return false;
    }

    /** By each sign that may come next: the ways from there on. */
    private static Map<Character, Set<List<String>>> behind(Set<List<String>> ways) {
        Map<Character, Set<List<String>>> next = new HashMap<>();
        for (List<String> way : ways) step(way, next);
        return next;
    }

    private static void step(List<String> way, Map<Character, Set<List<String>>> next) {
        if (way.isEmpty()) return;
        String head = way.get(0);
        List<String> rest = way.subList(1, way.size());
        if (head.length() == 1) {
            next.computeIfAbsent(head.charAt(0), c -> new HashSet<>()).add(new ArrayList<>(rest));
            return;
        }
        for (List<String> body : bodies(head)) {
            List<String> whole = new ArrayList<>(body);
            whole.addAll(rest);
            step(whole, next);
        }
    }

    private static List<List<String>> bodies(String rule) {
        List<List<String>> all = new ArrayList<>();
        String name = rule.replaceAll("[0-9]", "");
        int n = rule.equals(name) ? 0 : Integer.parseInt(rule.substring(name.length()));
        switch (name) {
            case "LAW":
                all.add(List.of("CLAUSE"));
                if (n > 1) all.add(List.of("CLAUSE", ";", "LAW" + (n - 1)));
                break;
            case "CLAUSE":
                for (String w : new String[] {"free ", "bind ", "bar ", "over ", "roll "}) all.add(spelt(w, "ANY0"));
                for (char k : "poghct".toCharArray()) all.add(spelt("oath " + k + " ", "ANY0"));
                for (String w : new String[] {"lose ", "both "}) all.add(spelt(w, "NUMBER", " ", "DIVISOR"));
                all.add(spelt("least ", "NUMBER"));
                break;
            case "NUMBER":
                for (int k = 0; k < 100; k++) all.add(spelt("" + k));
                for (int k = 0; k < 10; k++) all.add(spelt("0" + k));
                break;
            case "DIVISOR":
                for (int k = 1; k < 100; k++) all.add(spelt("" + k));
                for (int k = 1; k < 10; k++) all.add(spelt("0" + k));
                break;
            case "ANY":
                all.add(List.of("EACH" + n));
                all.add(List.of("EACH" + n, "|", "ANY" + n));
                break;
            case "EACH":
                all.add(List.of("SINGLE" + n));
                all.add(List.of("SINGLE" + n, "&", "EACH" + n));
                break;
            case "SINGLE":
                all.add(List.of("LETTER", "SIGN", "NUMBER"));
                if (n < 4) {
                    all.add(List.of("!", "SINGLE" + (n + 1)));
                    all.add(List.of("(", "ANY" + (n + 1), ")"));
                }
                break;
            case "LETTER":
                for (char k : "ayowsuxbhq".toCharArray()) all.add(spelt("" + k));
                break;
            case "SIGN":
                for (char k : "<=>".toCharArray()) all.add(spelt("" + k));
                break;
            default:
                throw new IllegalStateException(rule);
        }
        return all;
    }

    private static List<String> spelt(String text, String... behind) {
        List<String> way = new ArrayList<>();
        for (char c : text.toCharArray()) way.add("" + c);
        way.addAll(List.of(behind));
        return way;
    }
}
