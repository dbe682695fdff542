import java.util.ArrayList;
import java.util.HashSet;
import java.util.List;
import java.util.Set;

/**
 * What a law may look like, as rules; a text is followed by all ways that the rules allow at once. A way is the row of
 * what is still to come; capitals are rules (with a figure: how many brackets and ! stand around).
 */
final class Grammar {
    /** The fault of a text; -1: it is a law. */
    static int fault(String text) {
        Set<List<String>> ways = new HashSet<>();
        ways.add(List.of("LAW8"));
        for (int at = 0; at < text.length(); at++) {
            Set<List<String>> next = new HashSet<>();
            for (List<String> way : ways) step(way, text.charAt(at), next);
            if (next.isEmpty()) return at;
            ways = next;
        }
        for (List<String> way : ways) if (way.isEmpty()) return -1;
        return text.length();
    }

    private static void step(List<String> way, char c, Set<List<String>> next) {
        if (way.isEmpty()) return;
        String head = way.get(0);
        List<String> rest = way.subList(1, way.size());
        if (head.length() == 1) {
            if (head.charAt(0) == c) next.add(new ArrayList<>(rest));
            return;
        }
        for (List<String> body : bodies(head)) {
            List<String> whole = new ArrayList<>(body);
            whole.addAll(rest);
            step(whole, c, next);
        }
    }

    private static List<List<String>> bodies(String rule) {
        List<List<String>> all = new ArrayList<>();
        String name = rule.replaceAll("[0-9]", "");
        int n = rule.equals(name) ? 0 : Integer.parseInt(rule.substring(name.length()));
        switch (name) {
            case "LAW":
                all.add(List.of("CLAUSE"));
                if (n > 1) all.add(List.of("CLAUSE", ";", "LAW" + (n - 1)));
                break;
            case "CLAUSE":
                for (String w : new String[] {"free ", "bind ", "bar ", "over ", "roll "}) all.add(spelt(w, "ANY0"));
                for (char k : "poghct".toCharArray()) all.add(spelt("oath " + k + " ", "ANY0"));
                for (String w : new String[] {"lose ", "both "}) all.add(spelt(w, "NUMBER", " ", "DIVISOR"));
                all.add(spelt("least ", "NUMBER"));
                break;
            case "NUMBER":
                for (int k = 0; k < 100; k++) all.add(spelt("" + k));
                for (int k = 0; k < 10; k++) all.add(spelt("0" + k));
                break;
            case "DIVISOR":
                for (int k = 1; k < 100; k++) all.add(spelt("" + k));
                for (int k = 1; k < 10; k++) all.add(spelt("0" + k));
                break;
            case "ANY":
                all.add(List.of("EACH" + n));
                all.add(List.of("EACH" + n, "|", "ANY" + n));
                break;
            case "EACH":
                all.add(List.of("SINGLE" + n));
                all.add(List.of("SINGLE" + n, "&", "EACH" + n));
                break;
            case "SINGLE":
                all.add(List.of("LETTER", "SIGN", "NUMBER"));
                if (n < 4) {
                    all.add(List.of("!", "SINGLE" + (n + 1)));
                    all.add(List.of("(", "ANY" + (n + 1), ")"));
                }
                break;
            case "LETTER":
                for (char k : "ayowsuxbhq".toCharArray()) all.add(spelt("" + k));
                break;
            case "SIGN":
                for (char k : "<=>".toCharArray()) all.add(spelt("" + k));
                break;
            default:
                throw new IllegalStateException(rule);
        }
        return all;
    }

    private static List<String> spelt(String text, String... behind) {
        List<String> way = new ArrayList<>();
        for (char c : text.toCharArray()) way.add("" + c);
        way.addAll(List.of(behind));
        return way;
    }
}
