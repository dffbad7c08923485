import java.util.ArrayList;
import java.util.HashMap;
import java.util.HashSet;
import java.util.List;
import java.util.Map;
import java.util.Set;

/** The document's words as plainly as sets and trees can say them, to compare the class with. */
final class Model {
    /** A ground term; a name has its index and no parts. */
    record Tree(int kind, int name, Tree left, Tree right) {
    }

    record Term(int kind, int left, int right) {
    }

    final int n;
    final int t;
    final int p;
    final List<Term> terms = new ArrayList<>();
    final List<Integer> entries = new ArrayList<>();
    final List<List<Integer>> premises = new ArrayList<>();
    final List<Integer> conclusions = new ArrayList<>();
    final List<Tree> facts = new ArrayList<>();
    final Map<Tree, Integer> ranks = new HashMap<>();
    boolean ready = false;
    private Map<Tree, Integer> universe;

    Model(int names, int terms, int steps) {
        n = Math.max(2, Math.min(4, names));
        t = Math.max(8, Math.min(16, terms));
        p = Math.max(8, Math.min(32, steps));
        for (int i = 0; i < n; i++) {
            this.terms.add(new Term(0, i, -1));
        }
    }

    boolean isHandle(int h) {
        return 0 <= h && h < terms.size();
    }

    boolean isStep(int j) {
        return 0 <= j && j < facts.size();
    }

    Tree instance(int h, int vx, int vy) {
        Term term = terms.get(h);
        return switch (term.kind) {
            case 0 -> new Tree(0, term.left, null, null);
            case 1 -> new Tree(0, term.left == 0 ? vx : vy, null, null);
            case 5 -> new Tree(5, -1, instance(term.left, vx, vy), null);
            default -> new Tree(term.kind, -1, instance(term.left, vx, vy),
                instance(term.right, vx, vy));
        };
    }

    /** All ground terms of U, each with the least h*16 + s that gives it. */
    Map<Tree, Integer> universe() {
        if (universe == null) {
            universe = new HashMap<>();
            for (int h = 0; h < terms.size(); h++) {
                for (int vx = 0; vx < n; vx++) {
                    for (int vy = 0; vy < n; vy++) {
                        universe.merge(instance(h, vx, vy), h * 16 + vx + 4 * vy, Math::min);
                    }
                }
            }
        }
        return universe;
    }

    Set<Integer> vars(int h) {
        Term term = terms.get(h);
        Set<Integer> in = new HashSet<>();
        if (term.kind == 1) {
            in.add(term.left);
        }
        if (term.kind >= 2) {
            in.addAll(vars(term.left));
        }
        if (term.kind >= 2 && term.kind <= 4) {
            in.addAll(vars(term.right));
        }
        return in;
    }

    int make(int kind, int a, int b) {
        if (ready) {
            return -2;
        }
        if (kind < 1 || kind > 5) {
            return -3;
        }
        if (kind == 1 && a != 0 && a != 1) {
            return -4;
        }
        if (kind == 5 && !isHandle(a)) {
            return -5;
        }
        if (kind >= 2 && kind <= 4 && (!isHandle(a) || !isHandle(b))) {
            return -5;
        }
        Term term = new Term(kind, a, kind == 1 || kind == 5 ? -1 : b);
        if (terms.contains(term)) {
            return terms.indexOf(term);
        }
        if (terms.size() == t) {
            return -6;
        }
        terms.add(term);
        universe = null;
        return terms.size() - 1;
    }

    int know(int h) {
        if (ready) {
            return -2;
        }
        if (!isHandle(h)) {
            return -5;
        }
        if (!vars(h).isEmpty()) {
            return -7;
        }
        if (entries.size() == 8) {
            return -6;
        }
        entries.add(h);
        return entries.size() - 1;
    }

    int rule(int p1, int p2, int c) {
        if (ready) {
            return -2;
        }
        if (p1 != -1 && !isHandle(p1) || p2 != -1 && !isHandle(p2) || !isHandle(c)) {
            return -5;
        }
        List<Integer> list = new ArrayList<>();
        Set<Integer> bound = new HashSet<>();
        for (int premise : new int[] {p1, p2}) {
            if (premise != -1) {
                list.add(premise);
                bound.addAll(vars(premise));
            }
        }
        if (!bound.containsAll(vars(c))) {
            return -8;
        }
        if (premises.size() == 8) {
            return -6;
        }
        premises.add(list);
        conclusions.add(c);
        return premises.size() - 1;
    }

    int saturate() {
        if (ready) {
            return -2;
        }
        ready = true;
        Set<Tree> k = new HashSet<>();
        for (int h : entries) {
            k.add(instance(h, 0, 0));
        }
        int i = 0;
        while (true) {
            for (Tree g : k) {
                ranks.putIfAbsent(g, i);
            }
            Set<Tree> next = next(k);
            if (next.equals(k)) {
                return k.size();
            }
            k = next;
            i++;
        }
    }

    /** K(i+1) out of K(i). */
    private Set<Tree> next(Set<Tree> k) {
        Set<Tree> next = new HashSet<>(k);
        for (Tree g : universe().keySet()) {
            boolean left = g.left != null && k.contains(g.left);
            if (g.kind == 5 && left || g.right != null && left && k.contains(g.right)) {
                next.add(g);
            }
        }
        for (Tree g : k) {
            if (g.kind == 2) {
                next.add(g.left);
                next.add(g.right);
            }
            if (g.kind == 3 && k.contains(g.right)) {
                next.add(g.left);
            }
            if (g.kind == 4 && g.right.kind == 5 && k.contains(g.right.left)) {
                next.add(g.left);
            }
        }
        for (int r = 0; r < conclusions.size(); r++) {
            for (int vx = 0; vx < n; vx++) {
                for (int vy = 0; vy < n; vy++) {
                    boolean all = true;
                    for (int premise : premises.get(r)) {
                        all = all && k.contains(instance(premise, vx, vy));
                    }
                    if (all) {
                        next.add(instance(conclusions.get(r), vx, vy));
                    }
                }
            }
        }
        return next;
    }

    int groundId(int h, int vx, int vy) {
        if (!isHandle(h)) {
            return -5;
        }
        if (vx < 0 || vx >= n || vy < 0 || vy >= n) {
            return -4;
        }
        return universe().get(instance(h, vx, vy));
    }

    int rank(int h, int vx, int vy) {
        if (!ready) {
            return -2;
        }
        int id = groundId(h, vx, vy);
        return id < 0 ? id : ranks.getOrDefault(instance(h, vx, vy), -1);
    }

    int step(int kind, int a, int b, int c) {
        if (!ready) {
            return -2;
        }
        if (facts.size() == p) {
            return -6;
        }
        if (kind < 0 || kind > 9) {
            return -3;
        }
        if (kind == 0 && (a < 0 || a >= entries.size())
                || kind == 9 && (a < 0 || a >= conclusions.size())) {
            return -4;
        }
        boolean second = kind >= 1 && kind <= 3 || kind == 7 || kind == 8;
        if (kind >= 1 && kind <= 8 && !isStep(a) || second && !isStep(b)) {
            return -9;
        }
        if (kind == 9) {
            int needed = premises.get(a).size();
            if (needed >= 1 && !isStep(b) || needed == 2 && !isStep(c)) {
                return -9;
            }
        }
        Tree g = fact(kind, a, b, c);
        if (g == null) {
            return -10;
        }
        facts.add(g);
        return facts.size() - 1;
    }

    /** The fact of a step with good references, or null. */
    Tree fact(int kind, int a, int b, int c) {
        if (kind == 0) {
            return instance(entries.get(a), 0, 0);
        }
        if (kind == 9) {
            return ruleFact(a, b, c);
        }
        Tree f = facts.get(a);
        if (kind <= 4) {
            int made = kind + 1;
            Tree g = new Tree(made, -1, f, made == 5 ? null : facts.get(b));
            return universe().containsKey(g) ? g : null;
        }
        if (kind == 5 || kind == 6) {
            return f.kind != 2 ? null : kind == 5 ? f.left : f.right;
        }
        if (kind == 7) {
            return f.kind == 3 && f.right.equals(facts.get(b)) ? f.left : null;
        }
        boolean opens = f.kind == 4 && f.right.kind == 5 && f.right.left.equals(facts.get(b));
        return opens ? f.left : null;
    }

    private Tree ruleFact(int r, int b, int c) {
        Set<Tree> found = new HashSet<>();
        int[] given = {b, c};
        for (int vx = 0; vx < n; vx++) {
            for (int vy = 0; vy < n; vy++) {
                boolean all = true;
                for (int i = 0; i < premises.get(r).size(); i++) {
                    Tree premise = instance(premises.get(r).get(i), vx, vy);
                    all = all && premise.equals(facts.get(given[i]));
                }
                if (all) {
                    found.add(instance(conclusions.get(r), vx, vy));
                }
            }
        }
        if (found.size() > 1) {
            throw new IllegalStateException("assignments give unlike facts");
        }
        return found.isEmpty() ? null : found.iterator().next();
    }

    int stepFact(int j) {
        return isStep(j) ? universe().get(facts.get(j)) : -9;
    }

    int kindOf(int h) {
        return isHandle(h) ? terms.get(h).kind : -5;
    }

    int child(int h, int which) {
        if (!isHandle(h)) {
            return -5;
        }
        return which == 0 ? terms.get(h).left : which == 1 ? terms.get(h).right : -4;
    }

    int entry(int i) {
        return 0 <= i && i < entries.size() ? entries.get(i) : -4;
    }

    int ruleTerm(int r, int which) {
        if (r < 0 || r >= conclusions.size() || which < 0 || which > 2) {
            return -4;
        }
        if (which == 2) {
            return conclusions.get(r);
        }
        return which < premises.get(r).size() ? premises.get(r).get(which) : -1;
    }

    int count(int what) {
        return switch (what) {
            case 0 -> terms.size();
            case 1 -> entries.size();
            case 2 -> conclusions.size();
            case 3 -> facts.size();
            case 4 -> ready ? 1 : 0;
            case 5 -> universe().size();
            case 6 -> ready ? ranks.size() : -2;
            default -> -4;
        };
    }
}
