import java.util.ArrayList;
import java.util.HashSet;
import java.util.List;
import java.util.Set;
import java.util.TreeSet;

/**
 * The document once more, word by word and without any speed: each question
 * looks at all STATES and CHOICES anew. DifferenceTest holds the class against it.
 */
final class PlainProver {
    private static final int NONE = -1, MISSING = -2, BEYOND = -3, BELOW = -4, KIND = -5, COPY = -6, NO = -7, FULL = -8;

    private record Part(int kind, int x, int y, boolean first) { }

    private record Cube(int mask, int values) {
        boolean holds(int state) {
            return (state & mask) == values;
        }
    }

    private record Trouble(int state, int k) { }

    private final List<Part> parts = new ArrayList<>();
    private final List<Integer> bits = new ArrayList<>();
    private final List<Integer> inputs = new ArrayList<>();
    private final List<Integer> assumed = new ArrayList<>();
    private final List<Integer> fairs = new ArrayList<>();
    private int bad = NONE;
    private int run;

    private final List<List<Cube>> frames = new ArrayList<>();
    private final List<Trouble> troubles = new ArrayList<>();
    private List<Integer> way;
    private List<Cube> wall;
    private int n;
    private int looks;
    private int answer;

    private final List<Cube> list = new ArrayList<>();
    private int failed = NONE;
    private int failedTo = NONE;
    private List<Integer> row;
    private final int[] refused = new int[9];

    PlainProver() {
        changed();
    }

    private int refuse(int by) {
        refused[-by]++;
        return by;
    }

    private void changed() {
        goesMemo = null;
        frames.clear();
        for (int k = 0; k <= 24; k++) {
            frames.add(new ArrayList<>());
        }
        troubles.clear();
        way = null;
        wall = null;
        n = 0;
        looks = 0;
        answer = 0;
        list.clear();
        run = beginning();
    }

    // ---- what a state is

    private int states() {
        return 1 << bits.size();
    }

    private int choicesInAll() {
        return 1 << inputs.size();
    }

    private int beginning() {
        int state = 0;
        for (int i = 0; i < bits.size(); i++) {
            if (parts.get(bits.get(i)).first) {
                state += 1 << i;
            }
        }
        return state;
    }

    private boolean partValue(int p, int state, int choices) {
        Part part = parts.get(p);
        if (part.kind == 0) {
            return signValue(part.x, state, choices) && signValue(part.y, state, choices);
        }
        if (part.kind == 3) {
            return (choices >> inputs.indexOf(p)) % 2 == 1;
        }
        return (state >> bits.indexOf(p)) % 2 == 1;
    }

    private boolean signValue(int sign, int state, int choices) {
        return partValue(sign / 2, state, choices) != (sign % 2 == 1);
    }

    private boolean right(int state, int choices) {
        for (int sign : assumed) {
            if (!signValue(sign, state, choices)) {
                return false;
            }
        }
        return true;
    }

    private boolean badWith(int state, int choices) {
        return bad != NONE && right(state, choices) && signValue(bad, state, choices);
    }

    private int[][] goesMemo;
    private boolean[] badMemo;

    /** Kept only until the machine is changed. */
    private void remember() {
        if (goesMemo != null) {
            return;
        }
        goesMemo = new int[states()][choicesInAll()];
        badMemo = new boolean[states()];
        for (int s = 0; s < states(); s++) {
            for (int c = 0; c < choicesInAll(); c++) {
                goesMemo[s][c] = goes(s, c);
                badMemo[s] |= badWith(s, c);
            }
        }
    }

    private int goes(int state, int choices) {
        if (!right(state, choices)) {
            return NONE;
        }
        int to = 0;
        for (int i = 0; i < bits.size(); i++) {
            if (signValue(parts.get(bits.get(i)).x, state, choices)) {
                to += 1 << i;
            }
        }
        return to;
    }

    private boolean isBad(int state) {
        remember();
        return badMemo[state];
    }

    private Set<Integer> after(int state) {
        remember();
        Set<Integer> to = new TreeSet<>();
        for (int s : goesMemo[state]) {
            if (s != NONE) {
                to.add(s);
            }
        }
        return to;
    }

    private boolean beyondSign(int sign) {
        return sign < 0 || sign >= 2 * parts.size();
    }

    private boolean beyondState(int state) {
        return state < 0 || state >= states();
    }

    private boolean beyondChoices(int choices) {
        return choices < 0 || choices >= choicesInAll();
    }

    // ---- the machine

    int bit(boolean first, boolean held) {
        if (parts.size() == 80 || bits.size() == 8) {
            return refuse(FULL);
        }
        int p = parts.size();
        parts.add(new Part(held ? 2 : 1, 2 * p, NONE, first));
        bits.add(p);
        changed();
        return p;
    }

    int input() {
        if (parts.size() == 80 || inputs.size() == 4) {
            return refuse(FULL);
        }
        parts.add(new Part(3, NONE, NONE, false));
        inputs.add(parts.size() - 1);
        changed();
        return parts.size() - 1;
    }

    int gate(int x, int y) {
        if (beyondSign(x) || beyondSign(y)) {
            return refuse(BEYOND);
        }
        if (parts.size() == 80) {
            return refuse(FULL);
        }
        parts.add(new Part(0, x, y, false));
        changed();
        return parts.size() - 1;
    }

    int next(int p, int sign) {
        if (p < 0 || p >= parts.size() || beyondSign(sign)) {
            return refuse(BEYOND);
        }
        Part part = parts.get(p);
        if (part.kind != 1) {
            return refuse(KIND);
        }
        parts.set(p, new Part(1, sign, NONE, part.first));
        changed();
        return part.x;
    }

    int bad(int sign) {
        if (sign != NONE && beyondSign(sign)) {
            return refuse(BEYOND);
        }
        int before = bad;
        bad = sign;
        changed();
        return before;
    }

    int assume(int sign) {
        if (beyondSign(sign)) {
            return refuse(BEYOND);
        }
        if (assumed.size() == 4) {
            return refuse(FULL);
        }
        assumed.add(sign);
        changed();
        return assumed.size();
    }

    int fair(int sign) {
        if (beyondSign(sign)) {
            return refuse(BEYOND);
        }
        if (fairs.size() == 3) {
            return refuse(FULL);
        }
        fairs.add(sign);
        changed();
        return fairs.size();
    }

    int part(int p, int what) {
        if (p < 0 || p >= parts.size()) {
            return refuse(BEYOND);
        }
        if (what < 0 || what > 2) {
            return refuse(NO);
        }
        Part part = parts.get(p);
        return what == 0 ? part.kind : what == 1 ? part.x : part.y;
    }

    int count(int what) {
        if (what < 0 || what > 7) {
            return refuse(NO);
        }
        int gates = 0;
        for (Part part : parts) {
            gates += part.kind == 0 ? 1 : 0;
        }
        return List.of(parts.size(), bits.size(), inputs.size(), gates, assumed.size(), fairs.size(), looks,
            list.size()).get(what);
    }

    // ---- a run

    int start() {
        run = beginning();
        return run;
    }

    int step(int choices) {
        if (beyondChoices(choices)) {
            return refuse(BEYOND);
        }
        if (!right(run, choices)) {
            return refuse(NO);
        }
        run = goes(run, choices);
        return run;
    }

    int value(int sign, int choices) {
        if (beyondSign(sign) || beyondChoices(choices)) {
            return refuse(BEYOND);
        }
        return signValue(sign, run, choices) ? 1 : 0;
    }

    int at(int state, int choices, int what) {
        if (beyondState(state) || beyondChoices(choices)) {
            return refuse(BEYOND);
        }
        if (what < 0 || what > 2) {
            return refuse(NO);
        }
        if (what == 0) {
            return goes(state, choices);
        }
        return (what == 1 ? right(state, choices) : badWith(state, choices)) ? 1 : 0;
    }

    // ---- proving

    private boolean inFrame(int k, int state) {
        if (k == 0) {
            return state == beginning();
        }
        return leftBy(frames.get(k), state);
    }

    private static boolean leftBy(List<Cube> clauses, int state) {
        for (Cube cube : clauses) {
            if (cube.holds(state)) {
                return false;
            }
        }
        return true;
    }

    private int leastInto(int k, Cube cube) {
        for (int s = 0; s < states(); s++) {
            if (!cube.holds(s) && inFrame(k, s)) {
                for (int t : after(s)) {
                    if (cube.holds(t)) {
                        return s;
                    }
                }
            }
        }
        return NONE;
    }

    private Cube widened(int k, Cube cube) {
        for (int i = 0; i < bits.size(); i++) {
            int bit = 1 << i;
            Cube wider = new Cube(cube.mask & ~bit, cube.values & ~bit);
            if (!wider.holds(beginning()) && leastInto(k - 1, wider) == NONE) {
                cube = wider;
            }
        }
        return cube;
    }

    int prove(int told) {
        if (told < 0) {
            return refuse(BELOW);
        }
        if (told == 0 || told > 5000) {
            return refuse(NO);
        }
        if (n == 0) {
            n = 1;
            if (isBad(beginning())) {
                way = List.of(beginning());
                answer = 2;
            }
        }
        while (answer == 0) {
            if (!troubles.isEmpty()) {
                if (told == 0) {
                    return 0;
                }
                told--;
                looks++;
                look();
            } else if (leastBadOf(n) != NONE) {
                troubles.add(new Trouble(leastBadOf(n), n));
            } else {
                push();
            }
        }
        return answer;
    }

    private int leastBadOf(int k) {
        for (int s = 0; s < states(); s++) {
            if (inFrame(k, s) && isBad(s)) {
                return s;
            }
        }
        return NONE;
    }

    private void look() {
        Trouble last = troubles.get(troubles.size() - 1);
        int s = last.state;
        int k = last.k;
        if (s == beginning()) {
            way = new ArrayList<>();
            for (int i = troubles.size() - 1; i >= 0; i--) {
                way.add(troubles.get(i).state);
            }
            answer = 2;
            return;
        }
        if (!inFrame(k, s)) {
            troubles.remove(troubles.size() - 1);
            return;
        }
        for (int t = 0; t < states(); t++) {
            if (t != s && inFrame(k - 1, t) && after(t).contains(s)) {
                troubles.add(new Trouble(t, k - 1));
                return;
            }
        }
        Cube cube = widened(k, new Cube(states() - 1, s));
        for (int j = 1; j <= k; j++) {
            if (frames.get(j).size() == 200) {
                answer = 3;
                return;
            }
        }
        for (int j = 1; j <= k; j++) {
            frames.get(j).add(cube);
        }
        troubles.remove(troubles.size() - 1);
    }

    private void push() {
        for (int i = 1; i <= n; i++) {
            for (Cube cube : List.copyOf(frames.get(i))) {
                if (!frames.get(i + 1).contains(cube) && !leadsInto(i, cube)) {
                    if (frames.get(i + 1).size() == 200) {
                        answer = 3;
                        return;
                    }
                    frames.get(i + 1).add(cube);
                }
            }
        }
        for (int i = 1; i <= n; i++) {
            if (frames.get(i + 1).containsAll(frames.get(i))) {
                wall = List.copyOf(frames.get(i));
                answer = 1;
                return;
            }
        }
        if (n == 23) {
            answer = 3;
        } else {
            n++;
        }
    }

    private boolean leadsInto(int k, Cube cube) {
        for (int s = 0; s < states(); s++) {
            if (inFrame(k, s)) {
                for (int t : after(s)) {
                    if (cube.holds(t)) {
                        return true;
                    }
                }
            }
        }
        return false;
    }

    int frames() {
        return n;
    }

    int clauses(int k) {
        return k < 1 || k > 24 ? refuse(BEYOND) : frames.get(k).size();
    }

    int clause(int k, int i, boolean values) {
        if (k < 1 || k > 24 || i < 0 || i >= frames.get(k).size()) {
            return refuse(BEYOND);
        }
        Cube cube = frames.get(k).get(i);
        return values ? cube.values : cube.mask;
    }

    int trouble(int i, int what) {
        if (i < 0) {
            return refuse(BELOW);
        }
        if (what != 0 && what != 1) {
            return refuse(NO);
        }
        if (i >= troubles.size()) {
            return NONE;
        }
        return what == 0 ? troubles.get(i).state : troubles.get(i).k;
    }

    int way() {
        return way == null ? refuse(MISSING) : way.size() - 1;
    }

    int wayState(int i) {
        if (way == null) {
            return refuse(MISSING);
        }
        return i < 0 || i >= way.size() ? refuse(BEYOND) : way.get(i);
    }

    int wayChoice(int i) {
        if (way == null) {
            return refuse(MISSING);
        }
        if (i < 0 || i >= way.size()) {
            return refuse(BEYOND);
        }
        for (int c = 0; c < choicesInAll(); c++) {
            boolean does = i + 1 == way.size() ? badWith(way.get(i), c) : goes(way.get(i), c) == way.get(i + 1);
            if (does) {
                return c;
            }
        }
        throw new IllegalStateException("a way that is none");
    }

    int take() {
        if (wall == null) {
            return refuse(MISSING);
        }
        if (wall.size() > 100) {
            return refuse(FULL);
        }
        list.clear();
        list.addAll(wall);
        return list.size();
    }

    // ---- questions

    private boolean noCube(int mask, int values) {
        return mask < 0 || mask >= states() || values < 0 || (values | mask) != mask;
    }

    int ask(int k, int mask, int values) {
        if (k < 0 || k > 24) {
            return refuse(BEYOND);
        }
        return noCube(mask, values) ? refuse(NO) : leastInto(k, new Cube(mask, values));
    }

    int widen(int k, int mask, int values) {
        if (k < 1 || k > 24) {
            return refuse(BEYOND);
        }
        Cube cube = new Cube(mask, values);
        if (noCube(mask, values) || cube.holds(beginning()) || leastInto(k - 1, cube) != NONE) {
            return refuse(NO);
        }
        return widened(k, cube).mask;
    }

    private Set<Integer> reached(int steps) {
        Set<Integer> come = new HashSet<>(Set.of(beginning()));
        for (int i = 0; i < Math.min(steps, 300); i++) {
            for (int s : List.copyOf(come)) {
                come.addAll(after(s));
            }
        }
        return come;
    }

    int shortest() {
        for (int steps = 0; steps < 300; steps++) {
            for (int s : reached(steps)) {
                if (isBad(s)) {
                    return steps;
                }
            }
            if (reached(steps).size() == reached(steps + 1).size()) {
                return NONE;
            }
        }
        return NONE;
    }

    int within(int steps) {
        return steps < 0 ? refuse(BELOW) : reached(steps).size();
    }

    int keeps(int k) {
        if (k < 1 || k > 24) {
            return refuse(BEYOND);
        }
        for (int s : reached(k)) {
            if (!inFrame(k, s)) {
                return 0;
            }
        }
        return 1;
    }

    int cone() {
        if (bad == NONE) {
            return refuse(MISSING);
        }
        Set<Integer> hung = new HashSet<>();
        List<Integer> open = new ArrayList<>(assumed);
        open.add(bad);
        while (!open.isEmpty()) {
            int sign = open.remove(0);
            if (sign != NONE && hung.add(sign / 2)) {
                open.add(parts.get(sign / 2).x);
                open.add(parts.get(sign / 2).y);
            }
        }
        int cone = 0;
        for (int i = 0; i < bits.size(); i++) {
            cone += hung.contains(bits.get(i)) ? 1 << i : 0;
        }
        return cone;
    }

    /** Of each state: is there a closed run through it, of steps, that has each fair one on it? */
    int live() {
        for (int s : new TreeSet<>(reached(300))) {
            Set<Integer> ahead = from(s);
            if (!ahead.contains(s)) {
                continue;
            }
            boolean all = true;
            for (int sign : fairs) {
                all &= passes(s, ahead, sign);
            }
            if (all) {
                return s;
            }
        }
        return NONE;
    }

    private boolean passes(int s, Set<Integer> ahead, int sign) {
        Set<Integer> here = new TreeSet<>(ahead);
        here.add(s);
        for (int t : here) {
            for (int c = 0; c < choicesInAll(); c++) {
                int to = goes(t, c);
                if (to != NONE && signValue(sign, t, c) && (to == s || from(to).contains(s))) {
                    return true;
                }
            }
        }
        return false;
    }

    private Set<Integer> from(int s) {
        Set<Integer> come = new HashSet<>();
        List<Integer> open = new ArrayList<>(after(s));
        while (!open.isEmpty()) {
            int t = open.remove(open.size() - 1);
            if (come.add(t)) {
                open.addAll(after(t));
            }
        }
        return come;
    }

    // ---- the list

    int list(int mask, int values) {
        if (noCube(mask, values)) {
            return refuse(NO);
        }
        if (list.size() == 100) {
            return refuse(FULL);
        }
        list.add(new Cube(mask, values));
        return list.size();
    }

    int forge(int i, int bit, boolean mask) {
        if (i < 0 || i >= list.size() || bit < 0 || bit >= bits.size()) {
            return refuse(BEYOND);
        }
        Cube old = list.get(i);
        int b = 1 << bit;
        boolean in = (old.mask & b) != 0;
        if (mask) {
            list.set(i, in ? new Cube(old.mask - b, old.values & ~b) : new Cube(old.mask + b, old.values));
            return 1;
        }
        if (!in) {
            return refuse(NO);
        }
        list.set(i, new Cube(old.mask, old.values ^ b));
        return 1;
    }

    int clear() {
        int had = list.size();
        list.clear();
        return had;
    }

    private int[] fault(List<Cube> clauses) {
        if (!leftBy(clauses, beginning())) {
            return new int[] {1, beginning(), NONE};
        }
        for (int s = 0; s < states(); s++) {
            if (leftBy(clauses, s) && isBad(s)) {
                return new int[] {3, s, NONE};
            }
        }
        for (int s = 0; s < states(); s++) {
            if (leftBy(clauses, s)) {
                for (int t : after(s)) {
                    if (!leftBy(clauses, t)) {
                        return new int[] {2, s, t};
                    }
                }
            }
        }
        return new int[] {0, NONE, NONE};
    }

    int judge() {
        int[] fault = fault(list);
        failed = fault[1];
        failedTo = fault[2];
        return fault[0];
    }

    int fails(int what) {
        return what == 0 ? failed : what == 1 ? failedTo : refuse(NO);
    }

    int small() {
        if (fault(list)[0] != 0) {
            return refuse(NO);
        }
        for (Cube cube : List.copyOf(list)) {
            List<Cube> rest = new ArrayList<>(list);
            rest.remove(cube);
            if (fault(rest)[0] == 0) {
                list.remove(cube);
            }
        }
        return list.size();
    }

    int listed(int i, boolean values) {
        if (i < 0 || i >= list.size()) {
            return refuse(BEYOND);
        }
        return values ? list.get(i).values : list.get(i).mask;
    }

    // ---- rows

    int lay(int state, int choices) {
        if (beyondState(state) || beyondChoices(choices)) {
            return refuse(BEYOND);
        }
        row = new ArrayList<>();
        for (int p = 0; p < parts.size(); p++) {
            row.add(partValue(p, state, choices) ? 1 : 0);
        }
        return row.size();
    }

    int tear() {
        int was = row == null ? 0 : 1;
        row = null;
        return was;
    }

    int row(int i) {
        if (row == null) {
            return refuse(MISSING);
        }
        return i < 0 || i >= row.size() ? refuse(BEYOND) : row.get(i);
    }

    int copy(int i, int j, int many) {
        if (row == null) {
            return refuse(MISSING);
        }
        if (many < 0) {
            return refuse(BELOW);
        }
        if (i < 0 || j < 0 || (long) i + many > row.size() || (long) j + many > row.size()) {
            return refuse(COPY);
        }
        List<Integer> before = List.copyOf(row);
        for (int at = 0; at < many; at++) {
            row.set(j + at, before.get(i + at));
        }
        return many;
    }

    int status(int by) {
        return by > -2 || by < -8 ? refuse(NO) : refused[-by];
    }
}
