import java.util.ArrayList;
import java.util.List;
import java.util.TreeMap;
import java.util.Map;

/**
 * The document told a second time, by trees and by trying everything, as plainly as can be:
 * what FallingRules is compared with in long mixed runs.
 */
final class Oracle {
    /** A TERM as a tree. */
    static final class Tree {
        final char letter;
        final List<Tree> parts;

        Tree(char letter, List<Tree> parts) {
            this.letter = letter;
            this.parts = parts;
        }

        boolean isUnknown() {
            return letter == 'x' || letter == 'y';
        }

        String letters() {
            StringBuilder all = new StringBuilder().append(letter);
            for (Tree part : parts) {
                all.append(part.letters());
            }
            return all.toString();
        }

        int nodes() {
            return letters().length();
        }

        String written() {
            if (parts.isEmpty()) {
                return "" + letter;
            }
            StringBuilder all = new StringBuilder().append(letter).append('(');
            for (int i = 0; i < parts.size(); i++) {
                all.append(i == 0 ? "" : ",").append(parts.get(i).written());
            }
            return all.append(')').toString();
        }

        /** Itself and all parts, by their first letters from the left. */
        List<Tree> all() {
            List<Tree> found = new ArrayList<>();
            found.add(this);
            for (Tree part : parts) {
                found.addAll(part.all());
            }
            return found;
        }

        int unknowns() {
            String letters = letters();
            return (letters.indexOf('x') >= 0 ? 1 : 0) + (letters.indexOf('y') >= 0 ? 2 : 0);
        }

        /** WEIGHT as {without UNKNOWNS, times x, times y}; w is A B C D K L M. */
        long[] weight(int[] w, long modulo) {
            switch (letter) {
                case 'a': return new long[] {w[0], 0, 0};
                case 'b': return new long[] {w[1], 0, 0};
                case 'x': return new long[] {0, 1, 0};
                case 'y': return new long[] {0, 0, 1};
                default:
            }
            long[] sum = {letter == 'f' ? w[2] : w[3], 0, 0};
            for (int i = 0; i < parts.size(); i++) {
                int times = letter == 'f' ? w[4] : w[5 + i];
                long[] of = parts.get(i).weight(w, modulo);
                for (int j = 0; j < 3; j++) {
                    sum[j] = (sum[j] + times * of[j]) % modulo;
                }
            }
            return sum;
        }
    }

    record Rule(Tree left, Tree right) {
        @Override public String toString() {
            return left.written() + ">" + right.written();
        }
    }

    record Call(int rule, Tree left, Tree part) { }

    record State(List<Rule> rules, Tree term) { }

    /** Where reading stops. */
    static final class Fault extends Exception {
        final int place;

        Fault(int place) {
            super("at " + place);
            this.place = place;
        }
    }

    private final StringBuilder text = new StringBuilder();
    private List<Rule> rules = new ArrayList<>();
    private Tree term = new Tree('a', List.of());
    private final List<State> states = new ArrayList<>();
    private final int[] refused = new int[3];
    private int at;
    private int nodes;

    private int bad() {
        refused[0]++;
        return -2;
    }

    private void leaveState() {
        states.add(new State(new ArrayList<>(rules), term));
        if (states.size() > 5) {
            states.remove(0);
        }
    }

    int type(int c) {
        if (c < 0 || c > 127) return bad();
        if (text.length() == 120) {
            refused[2]++;
            return -4;
        }
        text.append((char) c);
        return text.length();
    }

    int clear() {
        int had = text.length();
        text.setLength(0);
        return had;
    }

    int reads() {
        at = 0;
        List<Rule> found = new ArrayList<>(rules);
        try {
            do {
                peek();
                if (found.size() == 5) throw new Fault(at);
                nodes = 0;
                Tree left = readTree(12, 3, true);
                expect('>');
                nodes = 0;
                Tree right = readTree(12, left.unknowns(), false);
                expect(';');
                found.add(new Rule(left, right));
            } while (peek() != -1);
        } catch (Fault fault) {
            return -10 - fault.place;
        }
        leaveState();
        rules = found;
        return rules.size();
    }

    int term() {
        at = 0;
        nodes = 0;
        Tree found;
        try {
            found = readTree(60, 3, false);
            if (peek() != -1) throw new Fault(at);
        } catch (Fault fault) {
            return -10 - fault.place;
        }
        leaveState();
        term = found;
        return term.nodes();
    }

    private int peek() {
        while (at < text.length() && text.charAt(at) == ' ') at++;
        return at < text.length() ? text.charAt(at) : -1;
    }

    private void expect(char c) throws Fault {
        if (peek() != c) throw new Fault(at);
        at++;
    }

    private Tree readTree(int most, int unknowns, boolean noUnknownFirst) throws Fault {
        int c = peek();
        if (c == -1 || "abxyfg".indexOf(c) < 0 || nodes == most) throw new Fault(at);
        if (c == 'x' && ((unknowns & 1) == 0 || noUnknownFirst)) throw new Fault(at);
        if (c == 'y' && ((unknowns & 2) == 0 || noUnknownFirst)) throw new Fault(at);
        at++;
        nodes++;
        List<Tree> parts = new ArrayList<>();
        if (c == 'f' || c == 'g') {
            expect('(');
            parts.add(readTree(most, unknowns, false));
            if (c == 'g') {
                expect(',');
                parts.add(readTree(most, unknowns, false));
            }
            expect(')');
        }
        return new Tree((char) c, parts);
    }

    private boolean isRule(int r) {
        return r >= 0 && r < rules.size();
    }

    int drops(int r) {
        if (!isRule(r)) return bad();
        leaveState();
        rules.remove(r);
        return rules.size();
    }

    int first(int r) {
        if (!isRule(r)) return bad();
        leaveState();
        rules.add(0, rules.remove(r));
        return r;
    }

    int of(int r, int what) {
        if (!isRule(r) || what < 0 || what > 5) return bad();
        Rule rule = rules.get(r);
        if (what == 0) return rule.left.nodes();
        if (what == 1) return rule.right.nodes();
        if (what == 2) return rule.left.letter;
        if (what == 3) return rule.left.unknowns();
        if (what == 4) return rule.right.unknowns();
        int count = 0;
        for (Call call : allCalls()) if (call.rule == r) count++;
        return count;
    }

    int shown(int r, int k) {
        if (!isRule(r) || k < -1) return bad();
        String written = rules.get(r).toString();
        if (k == -1) return written.length();
        return k < written.length() ? written.charAt(k) : -5;
    }

    private static int[] figures(int weights) {
        if (weights < 0 || weights > 3333333) return null;
        int[] w = new int[7];
        for (int i = 6; i >= 0; i--) {
            w[i] = weights % 10;
            weights /= 10;
            if (w[i] > 3) return null;
        }
        return w;
    }

    /** 2 HEAVIER, 1 AS HEAVY, 0 neither. */
    private static int compare(Tree one, Tree other, int[] w) {
        long[] p = one.weight(w, Long.MAX_VALUE);
        long[] q = other.weight(w, Long.MAX_VALUE);
        if (p[0] < q[0] || p[1] < q[1] || p[2] < q[2]) return 0;
        return p[0] > q[0] ? 2 : 1;
    }

    private static int number(int[] w) {
        int n = 0;
        for (int figure : w) n = 10 * n + figure;
        return n;
    }

    /** The next greater number whose first four figures are 0 .. top, the others low .. high; false: none. */
    private static boolean stepOn(int[] w, int top, int low, int high) {
        for (int i = 6; i >= 0; i--) {
            if (w[i] < (i < 4 ? top : high)) {
                w[i]++;
                return true;
            }
            w[i] = i < 4 ? 0 : low;
        }
        return false;
    }

    int fall() {
        int[] w = {0, 0, 0, 0, 1, 1, 1};
        do {
            boolean all = true;
            for (Rule rule : rules) all = all && compare(rule.left, rule.right, w) == 2;
            if (all) return number(w);
        } while (stepOn(w, 3, 1, 3));
        return -1;
    }

    int weighs(int weights, int r) {
        int[] w = figures(weights);
        if (w == null || !isRule(r)) return bad();
        return compare(rules.get(r).left, rules.get(r).right, w);
    }

    int weight(int weights) {
        int[] w = figures(weights);
        return w == null ? bad() : (int) term.weight(w, 1000000007L)[0];
    }

    private boolean isHead(Tree tree) {
        for (Rule rule : rules) if (rule.left.letter == tree.letter) return true;
        return false;
    }

    private List<Call> allCalls() {
        List<Call> found = new ArrayList<>();
        for (int r = 0; r < rules.size(); r++) {
            for (Tree part : rules.get(r).right.all()) {
                if (isHead(part)) found.add(new Call(r, rules.get(r).left, part));
            }
        }
        return found;
    }

    private boolean mayCome(Tree s, Tree t) {
        if (t.isUnknown() || s.isUnknown() || isHead(s)) return true;
        return s.letter == t.letter && partsMayCome(s, t);
    }

    private boolean partsMayCome(Tree s, Tree t) {
        for (int i = 0; i < s.parts.size(); i++) {
            if (!mayCome(s.parts.get(i), t.parts.get(i))) return false;
        }
        return true;
    }

    private boolean mayFollow(Call one, Call then) {
        return one.part.letter == then.left.letter && partsMayCome(one.part, then.left);
    }

    private boolean gets(List<Call> all, int from, int to, boolean[] seen) {
        for (int d = 0; d < all.size(); d++) {
            if (!mayFollow(all.get(from), all.get(d))) continue;
            if (d == to) return true;
            if (!seen[d]) {
                seen[d] = true;
                if (gets(all, d, to, seen)) return true;
            }
        }
        return false;
    }

    /** The RING of each CALL; -1: in none. */
    private int[] ringOf(List<Call> all) {
        int n = all.size();
        int[] ring = new int[n];
        java.util.Arrays.fill(ring, -1);
        boolean[][] gets = new boolean[n][n];
        for (int c = 0; c < n; c++) {
            for (int d = 0; d < n; d++) gets[c][d] = gets(all, c, d, new boolean[n]);
        }
        int rings = 0;
        for (int c = 0; c < n; c++) {
            if (ring[c] != -1 || !gets[c][c]) continue;
            for (int d = c; d < n; d++) if (gets[c][d] && gets[d][c]) ring[d] = rings;
            rings++;
        }
        return ring;
    }

    private static int ringCount(int[] ringOf) {
        int most = -1;
        for (int ring : ringOf) most = Math.max(most, ring);
        return most + 1;
    }

    private int lightest(List<Call> all, int[] ringOf, int k) {
        int[] w = new int[7];
        do {
            boolean good = true;
            for (Rule rule : rules) good = good && compare(rule.left, rule.right, w) >= 1;
            for (int c = 0; good && c < all.size(); c++) {
                if (ringOf[c] == k) good = compare(all.get(c).left, all.get(c).part, w) == 2;
            }
            if (good) return number(w);
        } while (stepOn(w, 2, 0, 2));
        return -1;
    }

    int calls(int what) {
        if (what < 0 || what > 2) return bad();
        List<Call> all = allCalls();
        if (what == 0) return all.size();
        int[] ringOf = ringOf(all);
        if (what == 1) return ringCount(ringOf);
        for (int k = 0; k < ringCount(ringOf); k++) if (lightest(all, ringOf, k) == -1) return 0;
        return 1;
    }

    int call(int c, int what) {
        List<Call> all = allCalls();
        if (c < 0 || c >= all.size() || what < 0 || what > 3) return bad();
        if (what == 0) return all.get(c).rule;
        if (what == 1) return all.get(c).part.nodes();
        if (what == 2) return ringOf(all)[c];
        int count = 0;
        for (Call d : all) if (mayFollow(all.get(c), d)) count++;
        return count;
    }

    int follows(int c, int d) {
        List<Call> all = allCalls();
        if (c < 0 || c >= all.size() || d < 0 || d >= all.size()) return bad();
        return mayFollow(all.get(c), all.get(d)) ? 1 : 0;
    }

    int lighter(int k) {
        List<Call> all = allCalls();
        int[] ringOf = ringOf(all);
        if (k < 0 || k >= ringCount(ringOf)) return bad();
        return lightest(all, ringOf, k);
    }

    private static boolean fits(Tree left, Tree tree, Map<Character, Tree> bound) {
        if (left.isUnknown()) {
            Tree before = bound.putIfAbsent(left.letter, tree);
            return before == null || before.letters().equals(tree.letters());
        }
        if (left.letter != tree.letter) return false;
        for (int i = 0; i < left.parts.size(); i++) {
            if (!fits(left.parts.get(i), tree.parts.get(i), bound)) return false;
        }
        return true;
    }

    private int ruleFor(Tree tree) {
        for (int r = 0; r < rules.size(); r++) {
            if (fits(rules.get(r).left, tree, new TreeMap<>())) return r;
        }
        return -1;
    }

    /** The place of the next TURN's part; -1: there is none. */
    private int placeOfTurn(Tree tree) {
        List<Tree> all = tree.all();
        for (int i = 0; i < all.size(); i++) {
            if (ruleFor(all.get(i)) == -1) continue;
            List<Tree> within = all.get(i).all();
            boolean innermost = true;
            for (int j = 1; j < within.size(); j++) innermost = innermost && ruleFor(within.get(j)) == -1;
            if (innermost) return i;
        }
        return -1;
    }

    private static Tree filled(Tree right, Map<Character, Tree> bound) {
        if (right.isUnknown()) return bound.get(right.letter);
        List<Tree> parts = new ArrayList<>();
        for (Tree part : right.parts) parts.add(filled(part, bound));
        return new Tree(right.letter, parts);
    }

    private static Tree replaced(Tree tree, Tree part, Tree by) {
        if (tree == part) return by;
        List<Tree> parts = new ArrayList<>();
        for (Tree each : tree.parts) parts.add(replaced(each, part, by));
        return new Tree(tree.letter, parts);
    }

    /** The TERM behind the next TURN, or null. */
    private Tree turned(Tree tree) {
        int place = placeOfTurn(tree);
        if (place == -1) return null;
        // A fresh copy, since parts may be shared and one of them alone is to be replaced.
        Tree whole = filled(tree, Map.of('x', new Tree('x', List.of()), 'y', new Tree('y', List.of())));
        Tree part = whole.all().get(place);
        Rule rule = rules.get(ruleFor(part));
        Map<Character, Tree> bound = new TreeMap<>();
        fits(rule.left, part, bound);
        return replaced(whole, part, filled(rule.right, bound));
    }

    int turns(int n) {
        if (n < 0 || n > 30) return bad();
        leaveState();
        int done = 0;
        for (Tree then = turned(term); done < n && then != null && then.nodes() <= 60; then = turned(term)) {
            term = then;
            done++;
        }
        return done;
    }

    int settles() {
        Tree tree = term;
        for (int done = 0; done <= 30; done++) {
            Tree then = turned(tree);
            if (then == null) return done;
            if (then.nodes() > 60) return -1;
            tree = then;
        }
        return -1;
    }

    int next(int what) {
        if (what < 0 || what > 1) return bad();
        int place = placeOfTurn(term);
        if (place == -1 || what == 1) return place;
        return ruleFor(term.all().get(place));
    }

    int letter(int k) {
        if (k < -1) return bad();
        String letters = term.letters();
        if (k == -1) return letters.length();
        return k < letters.length() ? letters.charAt(k) : -5;
    }

    int back() {
        if (states.isEmpty()) {
            refused[1]++;
            return -3;
        }
        State state = states.remove(states.size() - 1);
        rules = state.rules;
        term = state.term;
        return states.size();
    }

    int told(int what) {
        if (what < 0 || what > 6) return bad();
        if (what < 3) return refused[what];
        int[] rest = {text.length(), rules.size(), term.nodes(), states.size()};
        return rest[what - 3];
    }

    long digest() {
        List<Integer> values = new ArrayList<>();
        for (int i = 0; i <= 6; i++) values.add(told(i));
        for (int r = 0; r < rules.size(); r++) {
            for (int i = 0; i <= 5; i++) values.add(of(r, i));
            values.add(weighs(1111111, r));
        }
        for (char c : term.letters().toCharArray()) values.add((int) c);
        values.add(fall());
        for (int i = 0; i <= 2; i++) values.add(calls(i));
        int[] ringOf = ringOf(allCalls());
        for (int c = 0; c < ringOf.length; c++) {
            values.add(call(c, 0));
            values.add(call(c, 1));
            values.add(ringOf[c]);
            values.add(call(c, 3));
        }
        values.add(settles());
        values.add(next(0));
        values.add(next(1));
        long h = 2609;
        for (int v : values) h = 31 * h + v;
        return h;
    }

    String text() {
        return text.toString();
    }

    @Override public String toString() {
        return "rules " + rules + ", term " + term.written() + ", text \"" + text + "\"";
    }
}
