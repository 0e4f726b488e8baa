import java.util.ArrayList;
import java.util.HashMap;
import java.util.HashSet;
import java.util.LinkedHashSet;
import java.util.List;
import java.util.Map;
import java.util.Set;

/**
 * The document's definitions, followed word by word and slowly, over rules as text ("A->aAb").
 * A' is written as the letter PRIME places after A. Two ways lead to the languages, both unlike the program's own:
 * sets of all short strings (from the definition), and Earley's algorithm for single long words.
 */
final class Oracle {
    private static final int PRIME = 'P' - 'A';

    final int nonterminals;
    final int terminals;
    final List<String> rules;
    final List<String> rewritten = new ArrayList<>();

    Oracle(int nonterminals, int terminals, List<String> rules) {
        this.nonterminals = nonterminals;
        this.terminals = terminals;
        this.rules = rules;
        rewrite();
    }

    // ---- Sets and kinds ----

    private Set<Character> reached(char from) {
        Set<Character> seen = new HashSet<>();
        List<Character> open = new ArrayList<>(List.of(from));
        while (!open.isEmpty()) {
            char a = open.remove(open.size() - 1);
            for (String rule : rules) {
                for (char symbol : right(rule).toCharArray()) {
                    if (left(rule) == a && isNonterminal(symbol) && seen.add(symbol)) {
                        open.add(symbol);
                    }
                }
            }
        }
        return seen;
    }

    private boolean sameSet(char a, char b) {
        return a == b || reached(a).contains(b) && reached(b).contains(a);
    }

    int setOf(int a) {
        int name = 0;
        while (!sameSet((char) ('A' + a), (char) ('A' + name))) {
            name++;
        }
        return name;
    }

    int setTotal() {
        Set<Integer> names = new HashSet<>();
        for (int a = 0; a < nonterminals; a++) {
            names.add(setOf(a));
        }
        return names.size();
    }

    private List<Integer> memberPlaces(String rule) {
        List<Integer> places = new ArrayList<>();
        String right = right(rule);
        for (int p = 0; p < right.length(); p++) {
            if (isNonterminal(right.charAt(p)) && sameSet(left(rule), right.charAt(p))) {
                places.add(p);
            }
        }
        return places;
    }

    int kindOf(int a) {
        List<String> mine = rules.stream().filter(r -> sameSet(left(r), (char) ('A' + a))).toList();
        if (mine.stream().allMatch(r -> memberPlaces(r).isEmpty())) {
            return RegApprox.KIND_PLAIN;
        }
        if (mine.stream().allMatch(r -> noneOrOnly(r, right(r).length() - 1))) {
            return RegApprox.KIND_RIGHT;
        }
        if (mine.stream().allMatch(r -> noneOrOnly(r, 0))) {
            return RegApprox.KIND_LEFT;
        }
        return RegApprox.KIND_SELF;
    }

    private boolean noneOrOnly(String rule, int place) {
        List<Integer> places = memberPlaces(rule);
        return places.isEmpty() || places.equals(List.of(place));
    }

    private boolean isSelf(char a) {
        return kindOf(a - 'A') == RegApprox.KIND_SELF;
    }

    boolean anySelf() {
        for (int a = 0; a < nonterminals; a++) {
            if (isSelf((char) ('A' + a))) {
                return true;
            }
        }
        return false;
    }

    // ---- G2 ----

    private void rewrite() {
        for (String rule : rules) {
            if (isSelf(left(rule))) {
                rewritten.addAll(split(rule));
            } else {
                rewritten.add(rule);
            }
        }
        for (char a = 'A'; a < 'A' + nonterminals; a++) {
            if (isSelf(a)) {
                rewritten.add(prime(a) + "->");
            }
        }
    }

    private List<String> split(String rule) {
        char a = left(rule);
        String right = right(rule);
        List<Integer> places = memberPlaces(rule);
        int m = places.size();
        if (m == 0) {
            return List.of(a + "->" + right + prime(a));
        }
        List<String> parts = new ArrayList<>();
        parts.add(a + "->" + right.substring(0, places.get(0) + 1));
        for (int j = 1; j < m; j++) {
            char before = right.charAt(places.get(j - 1));
            parts.add(prime(before) + "->" + right.substring(places.get(j - 1) + 1, places.get(j) + 1));
        }
        char last = right.charAt(places.get(m - 1));
        parts.add(prime(last) + "->" + right.substring(places.get(m - 1) + 1) + prime(a));
        return parts;
    }

    private static char prime(char a) {
        return (char) (a + PRIME);
    }

    // ---- All short strings of a language ----

    /** All strings of at most `most` tokens that A derives. */
    static Set<String> strings(List<String> grammar, int most) {
        return allStrings(grammar, most).getOrDefault('A', Set.of());
    }

    private static Map<Character, Set<String>> allStrings(List<String> grammar, int most) {
        Map<Character, Set<String>> found = new HashMap<>();
        boolean grown = true;
        while (grown) {
            grown = false;
            for (String rule : grammar) {
                Set<String> made = Set.of("");
                for (char symbol : right(rule).toCharArray()) {
                    made = join(made, stringsOf(symbol, found), most);
                }
                grown |= found.computeIfAbsent(left(rule), k -> new HashSet<>()).addAll(made);
            }
        }
        return found;
    }

    /** All strings of at most `most` tokens that begin some string, of any length, that A derives. */
    static Set<String> prefixes(List<String> grammar, int most) {
        Set<Character> productive = productive(grammar);
        Map<Character, Set<String>> whole = allStrings(grammar, most);
        Map<Character, Set<String>> begun = new HashMap<>();
        boolean grown = true;
        while (grown) {
            grown = false;
            for (String rule : grammar) {
                if (isProductive(right(rule), productive)) {
                    Set<String> made = begunBy(right(rule), whole, begun, most);
                    grown |= begun.computeIfAbsent(left(rule), k -> new HashSet<>()).addAll(made);
                }
            }
        }
        return begun.getOrDefault('A', Set.of());
    }

    private static Set<String> begunBy(String right, Map<Character, Set<String>> whole,
            Map<Character, Set<String>> begun, int most) {
        Set<String> made = new HashSet<>(Set.of(""));
        Set<String> before = Set.of("");
        for (char symbol : right.toCharArray()) {
            Set<String> start = isNonterminal(symbol) ? begun.getOrDefault(symbol, Set.of()) : Set.of("" + symbol);
            made.addAll(join(before, start, most));
            before = join(before, stringsOf(symbol, whole), most);
            made.addAll(before);
        }
        return made;
    }

    private static Set<String> stringsOf(char symbol, Map<Character, Set<String>> found) {
        return isNonterminal(symbol) ? found.getOrDefault(symbol, Set.of()) : Set.of("" + symbol);
    }

    private static Set<String> join(Set<String> left, Set<String> right, int most) {
        Set<String> joined = new HashSet<>();
        for (String l : left) {
            for (String r : right) {
                if (l.length() + r.length() <= most) {
                    joined.add(l + r);
                }
            }
        }
        return joined;
    }

    private static Set<Character> productive(List<String> grammar) {
        Set<Character> productive = new HashSet<>();
        boolean grown = true;
        while (grown) {
            grown = false;
            for (String rule : grammar) {
                if (isProductive(right(rule), productive)) {
                    grown |= productive.add(left(rule));
                }
            }
        }
        return productive;
    }

    private static boolean isProductive(String right, Set<Character> productive) {
        return right.chars().allMatch(s -> !isNonterminal((char) s) || productive.contains((char) s));
    }

    // ---- Earley's algorithm for one word ----

    /** What the last item set tells about the word: in the language, a beginning of it, tokens that may follow. */
    record Verdict(boolean accepted, boolean live, int mask) {
    }

    private record Item(String rule, int dot, int from) {
        boolean done() {
            return dot == right(rule).length();
        }

        char next() {
            return right(rule).charAt(dot);
        }

        Item on() {
            return new Item(rule, dot + 1, from);
        }
    }

    /** One word, taken token by token. */
    static final class Earley {
        private final List<String> useful;
        private final List<Set<Item>> sets = new ArrayList<>();

        Earley(List<String> grammar) {
            // Without the rules that derive nothing, every item left stands for a word that can be completed.
            Set<Character> productive = productive(grammar);
            useful = grammar.stream().filter(r -> isProductive(right(r), productive)).toList();
            Set<Item> first = new LinkedHashSet<>();
            predict('A', 0, first);
            close(first);
        }

        void feed(char token) {
            Set<Item> after = new LinkedHashSet<>();
            for (Item item : sets.get(sets.size() - 1)) {
                if (!item.done() && item.next() == token) {
                    after.add(item.on());
                }
            }
            close(after);
        }

        private void predict(char a, int here, Set<Item> set) {
            for (String rule : useful) {
                if (left(rule) == a) {
                    set.add(new Item(rule, 0, here));
                }
            }
        }

        private void close(Set<Item> set) {
            int here = sets.size();
            sets.add(set);
            int before = -1;
            // Repeated until nothing is new: then a nonterminal that derives the empty string needs no special care.
            while (before != set.size()) {
                before = set.size();
                for (Item item : new ArrayList<>(set)) {
                    if (item.done()) {
                        complete(item, set);
                    } else {
                        predict(item.next(), here, set);
                    }
                }
            }
        }

        private void complete(Item done, Set<Item> set) {
            for (Item waiting : new ArrayList<>(sets.get(done.from()))) {
                if (!waiting.done() && waiting.next() == left(done.rule())) {
                    set.add(waiting.on());
                }
            }
        }

        Verdict verdict() {
            Set<Item> last = sets.get(sets.size() - 1);
            boolean accepted = false;
            int mask = 0;
            for (Item item : last) {
                accepted |= item.done() && item.from() == 0 && left(item.rule()) == 'A';
                if (!item.done() && !isNonterminal(item.next())) {
                    mask |= 1 << (item.next() - 'a');
                }
            }
            return new Verdict(accepted, !last.isEmpty(), mask);
        }
    }

    private static char left(String rule) {
        return rule.charAt(0);
    }

    private static String right(String rule) {
        return rule.substring(3);
    }

    private static boolean isNonterminal(char symbol) {
        return Character.isUpperCase(symbol);
    }
}
