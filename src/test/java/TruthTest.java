import java.util.ArrayDeque;
import java.util.ArrayList;
import java.util.Arrays;
import java.util.Deque;
import java.util.List;
import java.util.Random;
import java.util.TreeSet;

/**
 * What must be so however the proof goes: a wall keeps out what is bad and is never left, a way is one, and the
 * questions agree with what at() and value() tell of each state. No model of the class is used.
 */
public final class TruthTest {
    private static final int MACHINES = 4000;
    private static final int MOST_BITS = 4;
    private static final int MOST_INPUTS = 2;

    private static int wrong = 0;
    private static final int[] ends = new int[4];
    private static int endless = 0;
    private static int stuck = 0;

    private final List<int[]> told = new ArrayList<>();
    private final Random random;
    private int bits;
    private int inputs;
    private final List<Integer> fairs = new ArrayList<>();
    private int[][] goes;
    private boolean[][] bad;
    private boolean[][][] fair;
    private int beginning;

    private TruthTest(long seed) {
        random = new Random(seed * 0x9E3779B97F4A7C15L);
    }

    public static void main(String[] args) {
        for (int seed = 1; seed <= MACHINES && wrong < 5; seed++) {
            TruthTest test = new TruthTest(seed);
            test.choose();
            test.lookAtSteps();
            test.questions();
            test.proof();
        }
        System.out.println(MACHINES + " machines: " + ends[1] + " walls, " + ends[2] + " ways, " + endless
            + " for ever, " + stuck + " not; " + wrong + " wrong");
        if (ends[1] == 0 || ends[2] == 0 || endless == 0 || stuck == 0 || wrong != 0) {
            System.exit(1);
        }
    }

    private void must(boolean holds, String text) {
        if (!holds) {
            wrong++;
            StringBuilder machine = new StringBuilder();
            for (int[] one : told) {
                machine.append(Arrays.toString(one));
            }
            System.out.println(text + " of the machine " + machine);
        }
    }

    private int sign(int parts) {
        return random.nextInt(2 * parts);
    }

    /** Calls as {which, x, y}; each object of this machine gets them all. */
    private void choose() {
        bits = 1 + random.nextInt(MOST_BITS);
        inputs = random.nextInt(MOST_INPUTS + 1);
        for (int i = 0; i < bits; i++) {
            told.add(new int[] {0, random.nextInt(2), random.nextInt(8) == 0 ? 1 : 0});
        }
        for (int i = 0; i < inputs; i++) {
            told.add(new int[] {1, 0, 0});
        }
        int parts = bits + inputs;
        for (int gates = random.nextInt(12); gates > 0; gates--) {
            told.add(new int[] {2, sign(parts), sign(parts)});
            parts++;
        }
        for (int i = 0; i < bits; i++) {
            if (told.get(i)[2] == 0) {
                told.add(new int[] {3, i, sign(parts)});
            }
        }
        told.add(new int[] {4, sign(parts), 0});
        for (int assumed = random.nextInt(2); assumed > 0; assumed--) {
            told.add(new int[] {5, sign(parts), 0});
        }
        for (int i = random.nextInt(4); i > 0; i--) {
            fairs.add(sign(parts));
            told.add(new int[] {6, fairs.get(fairs.size() - 1), 0});
        }
    }

    private FrameProver make() {
        FrameProver x = new FrameProver();
        for (int[] call : told) {
            switch (call[0]) {
                case 0 -> x.bit(call[1] == 1, call[2] == 1);
                case 1 -> x.input();
                case 2 -> x.gate(call[1], call[2]);
                case 3 -> x.next(call[1], call[2]);
                case 4 -> x.bad(call[1]);
                case 5 -> x.assume(call[1]);
                default -> x.fair(call[1]);
            }
        }
        return x;
    }

    private void lookAtSteps() {
        int states = 1 << bits;
        int choicesInAll = 1 << inputs;
        goes = new int[states][choicesInAll];
        bad = new boolean[states][choicesInAll];
        fair = new boolean[fairs.size()][states][choicesInAll];
        FrameProver x = make();
        FrameProver y = make();
        beginning = x.start();
        for (int s = 0; s < states; s++) {
            for (int c = 0; c < choicesInAll; c++) {
                goes[s][c] = x.at(s, c, 0);
                bad[s][c] = x.at(s, c, 2) == 1;
                must((x.at(s, c, 1) == 1) == (goes[s][c] >= 0), "at");
                y.lay(s, c);
                for (int i = 0; i < fairs.size(); i++) {
                    fair[i][s][c] = (y.row(fairs.get(i) / 2) == 1) != (fairs.get(i) % 2 == 1);
                }
            }
        }
    }

    private TreeSet<Integer> within(int n) {
        TreeSet<Integer> come = new TreeSet<>(List.of(beginning));
        for (int step = 0; step < n; step++) {
            for (int s : new ArrayList<>(come)) {
                for (int to : goes[s]) {
                    if (to >= 0) {
                        come.add(to);
                    }
                }
            }
        }
        return come;
    }

    private boolean isBad(int s) {
        for (boolean one : bad[s]) {
            if (one) {
                return true;
            }
        }
        return false;
    }

    private int shortest() {
        for (int n = 0; n <= 1 << bits; n++) {
            for (int s : within(n)) {
                if (isBad(s)) {
                    return n;
                }
            }
        }
        return -1;
    }

    /** Whether a walk leads from a state to itself with each fair sign 1 on it. */
    private boolean comesAgain(int from) {
        int all = (1 << fairs.size()) - 1;
        boolean[][] seen = new boolean[1 << bits][all + 1];
        Deque<int[]> open = new ArrayDeque<>();
        open.add(new int[] {from, 0});
        while (!open.isEmpty()) {
            int[] here = open.remove();
            for (int c = 0; c < goes[here[0]].length; c++) {
                int to = goes[here[0]][c];
                if (to < 0) {
                    continue;
                }
                int met = here[1];
                for (int i = 0; i < fairs.size(); i++) {
                    met |= fair[i][here[0]][c] ? 1 << i : 0;
                }
                if (to == from && met == all) {
                    return true;
                }
                if (!seen[to][met]) {
                    seen[to][met] = true;
                    open.add(new int[] {to, met});
                }
            }
        }
        return false;
    }

    private int live() {
        for (int s : within(1 << bits)) {
            if (comesAgain(s)) {
                return s;
            }
        }
        return -1;
    }

    private void questions() {
        FrameProver x = make();
        for (int n = 0; n <= (1 << bits) + 1; n++) {
            must(x.within(n) == within(n).size(), "within(" + n + ")");
        }
        must(x.shortest() == shortest(), "shortest()");
        int live = live();
        must(x.live() == live, "live()");
        endless += live >= 0 ? 1 : 0;
        stuck += live < 0 ? 1 : 0;
    }

    private void proof() {
        FrameProver x = make();
        int end = 0;
        int calls = 0;
        while (end == 0 && calls < 100) {
            end = x.prove(1 + random.nextInt(40));
            calls++;
        }
        must(end == (shortest() < 0 ? 1 : 2), "prove() = " + end);
        if (end >= 0 && end < ends.length) {
            ends[end]++;
        }
        for (int k = 1; k <= 24; k++) {
            must(x.keeps(k) == 1, "keeps(" + k + ")");
        }
        if (end == 1) {
            wall(x);
        } else if (end == 2) {
            way(x);
        }
    }

    private void wall(FrameProver x) {
        must(x.take() == x.count(7), "take()");
        must(x.judge() == 0, "judge()");
        holds(x);
        int before = x.count(7);
        must(x.small() <= before, "small()");
        must(x.judge() == 0, "judge() of what is small");
        holds(x);
    }

    /** The list keeps out all that is bad and nothing that comes. */
    private void holds(FrameProver x) {
        int[] masks = new int[x.count(7)];
        int[] values = new int[masks.length];
        for (int i = 0; i < masks.length; i++) {
            masks[i] = x.listed(i, false);
            values[i] = x.listed(i, true);
        }
        for (int s = 0; s < 1 << bits; s++) {
            boolean isLeft = true;
            for (int i = 0; i < masks.length; i++) {
                isLeft &= (s & masks[i]) != values[i];
            }
            must(!isLeft || !isBad(s), "a bad state is left in");
            must(isLeft || !within(1 << bits).contains(s), "a state that comes is kept out");
        }
    }

    private void way(FrameProver x) {
        int steps = x.way();
        must(steps >= shortest(), "way()");
        must(x.wayState(0) == beginning, "wayState(0)");
        for (int i = 0; i <= steps; i++) {
            int s = x.wayState(i);
            int c = x.wayChoice(i);
            boolean holds = i < steps ? goes[s][c] == x.wayState(i + 1) : bad[s][c];
            must(holds, "wayChoice(" + i + ")");
            for (int less = 0; less < c; less++) {
                must(i < steps ? goes[s][less] != x.wayState(i + 1) : !bad[s][less], "less than wayChoice(" + i + ")");
            }
        }
    }
}
