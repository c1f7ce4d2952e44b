import java.util.ArrayList;
import java.util.Arrays;
import java.util.List;

/** The machines that the tests by hand are told of. */
final class Machines {
    private Machines() {
    }

    /** The signs of a gate by their parts: and(x, y) is the sign of a new gate. */
    static int and(FrameProver x, int a, int b) {
        return 2 * x.gate(a, b);
    }

    static int differ(FrameProver x, int a, int b) {
        return and(x, and(x, a, b) ^ 1, and(x, a ^ 1, b ^ 1) ^ 1);
    }

    /** Bits a, b from 0: a is next what b is not, b what a was; 0, 1, 3 (bad), 2, 0. */
    static FrameProver twoBits() {
        FrameProver x = new FrameProver();
        x.bit(false, false);
        x.bit(false, false);
        x.input();
        x.gate(0, 2);
        x.gate(1, 3);
        x.next(0, 3);
        x.next(1, 0);
        x.bad(6);
        return x;
    }

    /** Counts up from 0 over so many bits; the number told is bad. */
    static FrameProver counter(int bits, int bad) {
        FrameProver x = new FrameProver();
        for (int i = 0; i < bits; i++) {
            x.bit(false, false);
        }
        int carry = and(x, 0, 1) ^ 1;
        for (int i = 0; i < bits; i++) {
            int sum = differ(x, 2 * i, carry);
            carry = and(x, 2 * i, carry);
            x.next(i, sum);
        }
        int sign = and(x, 0, 1) ^ 1;
        for (int i = 0; i < bits; i++) {
            sign = and(x, sign, 2 * i + (1 - (bad >> i & 1)));
        }
        x.bad(sign);
        return x;
    }

    /**
     * Eight bits from 0, each next another one; each input turns two of them. A state
     * with an odd number of ones is bad, but for those where a spared pair of signs is 1.
     */
    static FrameProver evenBits(int[] order, int[][] flips, int[][] spared) {
        FrameProver x = new FrameProver();
        for (int i = 0; i < 8; i++) {
            x.bit(false, false);
        }
        for (int i = 0; i < flips.length; i++) {
            x.input();
        }
        int odd = 0;
        for (int i = 1; i < 8; i++) {
            odd = differ(x, odd, 2 * i);
        }
        int[] nexts = new int[8];
        for (int i = 0; i < 8; i++) {
            nexts[i] = 2 * order[i];
        }
        for (int i = 0; i < flips.length; i++) {
            for (int turned : flips[i]) {
                nexts[turned] = differ(x, nexts[turned], 16 + 2 * i);
            }
        }
        for (int[] pair : spared) {
            odd = and(x, odd, and(x, pair[0], pair[1]) ^ 1);
        }
        for (int i = 0; i < 8; i++) {
            x.next(i, nexts[i]);
        }
        x.bad(odd);
        return x;
    }

    /** Seven bits from 0 that move on by one place; the state that comes by so many steps is bad. */
    static FrameProver register(int steps) {
        FrameProver x = new FrameProver();
        for (int i = 0; i < 7; i++) {
            x.bit(false, false);
        }
        int last = differ(x, 0, 8) ^ 1;
        for (int i = 0; i < 7; i++) {
            x.next(i, i < 6 ? 2 * (i + 1) : last);
        }
        int state = x.start();
        for (int i = 0; i < steps; i++) {
            state = x.step(0);
        }
        int bad = 1 - (state & 1);
        for (int i = 1; i < 7; i++) {
            bad = and(x, bad, 2 * i + (1 - (state >> i & 1)));
        }
        x.bad(bad);
        return x;
    }

    private static int or(FrameProver x, List<Integer> signs) {
        int none = signs.isEmpty() ? and(x, 0, 1) ^ 1 : signs.get(0) ^ 1;
        for (int i = 1; i < signs.size(); i++) {
            none = and(x, none, signs.get(i) ^ 1);
        }
        return none ^ 1;
    }

    /** For each number that so many parts, from part 0 on, may tell, a sign that is 1 there alone. */
    private static int[] each(FrameProver x, int parts) {
        int[] signs = {1, 0};
        for (int part = 1; part < parts; part++) {
            int[] more = new int[2 * signs.length];
            for (int i = 0; i < more.length; i++) {
                more[i] = and(x, signs[i % signs.length], 2 * part + (i < signs.length ? 1 : 0));
            }
            signs = more;
        }
        return signs;
    }

    /** A machine by its table: to[s][c] is where state s goes by choices c, -1 where they are not right. */
    static FrameProver graph(int bits, int inputs, int beginning, int[][] to, int... bad) {
        FrameProver x = new FrameProver();
        for (int i = 0; i < bits; i++) {
            x.bit((beginning >> i & 1) == 1, false);
        }
        for (int i = 0; i < inputs; i++) {
            x.input();
        }
        int[] here = each(x, bits + inputs);
        List<List<Integer>> nexts = new ArrayList<>();
        for (int i = 0; i < bits; i++) {
            nexts.add(new ArrayList<>());
        }
        List<Integer> wrong = new ArrayList<>();
        List<Integer> bads = new ArrayList<>();
        for (int i = 0; i < here.length; i++) {
            int state = i % (1 << bits);
            int next = to[state][i >> bits];
            if (next < 0) {
                wrong.add(here[i]);
            }
            for (int bit = 0; next >= 0 && bit < bits; bit++) {
                if ((next >> bit & 1) == 1) {
                    nexts.get(bit).add(here[i]);
                }
            }
            if (Arrays.stream(bad).anyMatch(one -> one == state)) {
                bads.add(here[i]);
            }
        }
        for (int bit = 0; bit < bits; bit++) {
            x.next(bit, or(x, nexts.get(bit)));
        }
        if (!wrong.isEmpty()) {
            x.assume(or(x, wrong) ^ 1);
        }
        x.bad(or(x, bads));
        return x;
    }

    /** Frame 1 learns the cube 2, 2 twice; wall: 2, 2 and 1, 0 and 2, 2. */
    static FrameProver twice() {
        return graph(2, 1, 1, new int[][] {{1, 3}, {-1, 1}, {1, 1}, {1, 3}}, 2, 3);
    }

    /** The clause of frame 1 comes at one pushing to frames 2 and 3; wall: 2, 2 and 1, 1. */
    static FrameProver pushedFar() {
        return graph(2, 1, 0, new int[][] {{0, -1}, {2, 2}, {2, 0}, {-1, 1}}, 3);
    }

    /** Frame 2 has not all of frame 1, but frame 3 all of frame 2; wall: 3, 3. */
    static FrameProver laterWall() {
        return graph(2, 1, 0, new int[][] {{1, 0}, {2, 2}, {1, -1}, {1, 1}}, 3);
    }

    /** Frame 1 has two clauses, which both are pushed; wall: 1, 1 and 2, 2. */
    static FrameProver pushedBoth() {
        return graph(2, 1, 0, new int[][] {{0, 0}, {1, 2}, {1, 1}, {1, 0}}, 1, 2);
    }

    /** twoBits() in the middle of its proof, with something of all that an object may hold. */
    static FrameProver busy() {
        FrameProver x = twoBits();
        x.fair(1);
        x.prove(3);
        return laden(x);
    }

    /** twoBits() with its way, and the rest as in busy(). */
    static FrameProver ended() {
        FrameProver x = twoBits();
        x.fair(1);
        x.prove(5000);
        return laden(x);
    }

    /** A machine with its wall, and the rest as in busy(). */
    static FrameProver walled() {
        FrameProver x = pushedFar();
        x.fair(1);
        x.prove(5000);
        return laden(x);
    }

    private static FrameProver laden(FrameProver x) {
        x.list(3, 1);
        x.list(2, 2);
        x.judge();
        x.step(0);
        x.lay(1, 0);
        return x;
    }

    /** Four assumptions and three fair ones, which all hold wherever bit 0 is 1. */
    static FrameProver fullOfSigns() {
        FrameProver x = new FrameProver();
        x.bit(true, false);
        for (int i = 0; i < 4; i++) {
            x.assume(0);
        }
        for (int i = 0; i < 3; i++) {
            x.fair(0);
        }
        return x;
    }

    /** As many gates as there is room for, behind what stands already. */
    static FrameProver filled(FrameProver x) {
        for (int part = x.count(0); part < 80; part++) {
            x.gate(0, 0);
        }
        return x;
    }

    /** A list of so many clauses. */
    static FrameProver listOf(int clauses) {
        FrameProver x = twoBits();
        for (int i = 0; i < clauses; i++) {
            x.list(3, 3);
        }
        return x;
    }

    /** Its wall has 100 clauses. */
    static FrameProver wallOf100() {
        int[] order = {1, 0, 2, 6, 3, 4, 7, 5};
        return evenBits(order, new int[][] {{6, 0}, {7, 4}}, new int[][] {{1, 5}, {15, 8}, {10, 13}});
    }

    /** Its wall has 101 clauses. */
    static FrameProver wallOf101() {
        int[] order = {6, 0, 7, 3, 1, 2, 5, 4};
        return evenBits(order, new int[][] {{5, 2}, {7, 6}}, new int[][] {{0, 14}, {15, 14}, {10, 4}});
    }

    /** Frame 1 has 200 clauses when one more is learned. */
    static FrameProver frameOf201() {
        int[] order = {6, 4, 7, 0, 2, 5, 3, 1};
        return evenBits(order, new int[][] {{5, 0}, {4, 5}, {7, 1}}, new int[0][]);
    }
}
