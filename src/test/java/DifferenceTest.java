import java.util.ArrayList;
import java.util.Arrays;
import java.util.Collections;
import java.util.List;
import java.util.Random;
import java.util.StringJoiner;

/** Long runs of made-up calls, each answered by the class and by PlainProver alike. */
public final class DifferenceTest {
    private static final int RUNS = 1200;
    private static final int CALLS = 512;
    private static final int[] ODD = {-1, -2, -9, 5001, 1 << 20, Integer.MAX_VALUE, Integer.MIN_VALUE};

    private static int wrong = 0;
    /** How often each answer of prove(), judge() and of refusals came, so that thin runs are seen. */
    private static final int[] proved = new int[4];
    private static final int[] judged = new int[4];
    private static final int[] refusedBy = new int[9];
    private static int lives = 0;
    private static int shrunk = 0;
    private static int fullFrames = 0;
    private static int wallsTooLong = 0;

    private final Random random;
    private final FrameProver real = new FrameProver();
    private final PlainProver plain = new PlainProver();
    private final List<String> told = new ArrayList<>();
    private final int changes;
    private boolean failed = false;

    private DifferenceTest(long seed) {
        // Small seeds alone would all begin with the same draw.
        random = new Random(seed * 0x9E3779B97F4A7C15L);
        changes = below(4);
    }

    public static void main(String[] args) {
        for (int run = 1; run <= RUNS; run++) {
            DifferenceTest test = new DifferenceTest(run);
            test.makeMachine();
            while (!test.failed && test.told.size() < CALLS) {
                test.anyCall();
            }
            if (test.failed) {
                wrong++;
                System.out.println("run " + run + ": " + String.join("; ", test.told));
            }
            if (wrong >= 3) {
                break;
            }
        }
        System.out.println("prove " + Arrays.toString(proved) + " judge " + Arrays.toString(judged) + " live " + lives
            + " small " + shrunk + " full frames " + fullFrames + " walls too long " + wallsTooLong + " refused " + Arrays.toString(refusedBy));
        for (int i = 0; i < 4; i++) {
            if (proved[i] == 0 || judged[i] == 0) {
                System.out.println("some answer of prove() or judge() never came");
                wrong++;
            }
        }
        if (lives == 0 || shrunk == 0 || fullFrames == 0 || wallsTooLong == 0) {
            System.out.println("some edge was never met");
            wrong++;
        }
        System.out.println(wrong == 0 ? "all answers are alike" : wrong + " runs differ");
        if (wrong != 0) {
            System.exit(1);
        }
    }

    private int below(int n) {
        return random.nextInt(n);
    }

    private int either(int usual, int most) {
        return below(20) == 0 ? ODD[below(ODD.length)] : below(15) == 0 ? below(most) : usual;
    }

    private int check(String name, int got, int due, Object... arguments) {
        StringJoiner call = new StringJoiner(", ", name + "(", ") = " + got);
        for (Object argument : arguments) {
            call.add("" + argument);
        }
        told.add(call + (got == due ? "" : " but due is " + due));
        failed |= got != due;
        if (due <= -2 && due >= -8) {
            refusedBy[-due]++;
        }
        return due;
    }

    // ---- machines

    private int parts() {
        return plain.count(0);
    }

    private int anySign() {
        int top = Math.max(2 * parts(), 1);
        return either(below(top), top + 3);
    }

    private int goodSign() {
        return parts() == 0 ? 0 : below(2 * parts());
    }

    private void addBit() {
        boolean first = below(4) == 0;
        boolean held = below(6) == 0;
        check("bit", real.bit(first, held), plain.bit(first, held), first, held);
    }

    private void addInput() {
        check("input", real.input(), plain.input());
    }

    private int addGate(int x, int y) {
        return check("gate", real.gate(x, y), plain.gate(x, y), x, y);
    }

    private void setNext(int part, int sign) {
        check("next", real.next(part, sign), plain.next(part, sign), part, sign);
    }

    private void setBad(int sign) {
        check("bad", real.bad(sign), plain.bad(sign), sign);
    }

    private void assume(int sign) {
        check("assume", real.assume(sign), plain.assume(sign), sign);
    }

    private void fair(int sign) {
        check("fair", real.fair(sign), plain.fair(sign), sign);
    }

    private void makeMachine() {
        switch (below(8)) {
            case 0:
                makeCounter();
                break;
            case 3:
                makeEven();
                break;
            case 4:
                makeRegister();
                break;
            case 1:
                makeRing();
                break;
            case 2:
                makeCrowded();
                break;
            default:
                makeAnything();
        }
    }

    private void makeAnything() {
        int bits = below(9);
        int inputs = below(5);
        for (int i = 0; i < bits; i++) {
            addBit();
        }
        for (int i = 0; i < inputs; i++) {
            addInput();
        }
        int gates = below(30);
        for (int i = 0; i < gates; i++) {
            addGate(goodSign(), goodSign());
        }
        for (int i = 0; i < bits; i++) {
            setNext(i, goodSign());
        }
        setBad(addGate(goodSign(), addGate(goodSign(), goodSign()) * 2) * 2);
        for (int i = below(3); i > 0; i--) {
            assume(goodSign());
        }
        for (int i = below(3); i > 0; i--) {
            fair(goodSign());
        }
    }

    private int and(int x, int y) {
        return 2 * addGate(x, y);
    }

    private int differ(int x, int y) {
        int both = and(x, y);
        int neither = and(x ^ 1, y ^ 1);
        return and(both ^ 1, neither ^ 1);
    }

    /** Counts on, perhaps only where an input lets it; some numbers may be jumped over. */
    private void makeCounter() {
        int bits = 2 + below(7);
        for (int i = 0; i < bits; i++) {
            check("bit", real.bit(false, false), plain.bit(false, false), false, false);
        }
        addInput();
        int carry = below(2) == 0 ? 2 * bits : and(2 * bits, 2 * bits + 1) ^ 1;
        for (int i = 0; i < bits; i++) {
            int sum = differ(2 * i, carry);
            carry = and(2 * i, carry);
            setNext(i, sum);
        }
        int reached = below(1 << bits);
        int sign = 2 * (bits - 1) + (reached & 1);
        for (int i = 0; i < bits - 1; i++) {
            sign = and(sign, 2 * i + (reached >> i & 1));
        }
        setBad(sign);
    }

    /** One token goes round; two at once are bad. */
    private void makeRing() {
        int bits = 3 + below(6);
        for (int i = 0; i < bits; i++) {
            boolean first = i == 0 || below(12) == 0;
            check("bit", real.bit(first, false), plain.bit(first, false), first, false);
        }
        addInput();
        for (int i = 0; i < bits; i++) {
            int before = (i + bits - 1) % bits;
            int moves = and(2 * before, 2 * bits);
            int stays = and(2 * i, 2 * bits + 1);
            setNext(i, and(moves ^ 1, stays ^ 1) ^ 1);
        }
        int none = and(0, 1) ^ 1;
        for (int i = 0; i + 1 < bits; i++) {
            none = and(none, and(2 * i, 2 * (i + 1)) ^ 1);
        }
        setBad(none ^ 1);
        if (below(2) == 0) {
            fair(2 * below(bits));
            fair(2 * bits + below(2));
        }
    }

    /** Bits change places, inputs turn two at a time; an odd number of ones is bad: walls are long. */
    private void makeEven() {
        for (int i = 0; i < 8; i++) {
            check("bit", real.bit(false, false), plain.bit(false, false), false, false);
        }
        int inputs = 2 + below(3);
        for (int i = 0; i < inputs; i++) {
            addInput();
        }
        int odd = 0;
        for (int i = 1; i < 8; i++) {
            odd = differ(odd, 2 * i);
        }
        List<Integer> nexts = new ArrayList<>();
        for (int i = 0; i < 8; i++) {
            nexts.add(2 * i);
        }
        Collections.shuffle(nexts, random);
        for (int i = 0; i < inputs; i++) {
            int one = below(8);
            int other = (one + 1 + below(7)) % 8;
            nexts.set(one, differ(nexts.get(one), 16 + 2 * i));
            nexts.set(other, differ(nexts.get(other), 16 + 2 * i));
        }
        for (int i = below(4); i > 0; i--) {
            odd = and(odd, and(below(16), below(16)) ^ 1);
        }
        for (int i = 0; i < 8; i++) {
            setNext(i, nexts.get(i));
        }
        setBad(odd);
    }

    /** Bits move on by one place, the last one is made of some others: ways are long. */
    private void makeRegister() {
        int bits = 5 + below(4);
        for (int i = 0; i < bits; i++) {
            check("bit", real.bit(false, false), plain.bit(false, false), false, false);
        }
        int last = differ(2 * below(bits), 2 * below(bits)) ^ 1;
        if (below(2) == 0) {
            last = differ(last, and(2 * below(bits), 2 * below(bits) + 1));
        }
        for (int i = 0; i < bits; i++) {
            setNext(i, i + 1 < bits ? 2 * (i + 1) : last);
        }
        int bad = 2 * below(bits) + below(2);
        for (int i = below(bits); i > 0; i--) {
            bad = and(bad, 2 * below(bits) + below(2));
        }
        setBad(bad);
    }

    /** Eight bits and as many gates as there is room for. */
    private void makeCrowded() {
        for (int i = 0; i < 8; i++) {
            check("bit", real.bit(false, false), plain.bit(false, false), false, false);
        }
        for (int i = 0; i < 4; i++) {
            addInput();
        }
        while (parts() < 80) {
            addGate(goodSign(), goodSign());
        }
        for (int i = 0; i < 8; i++) {
            setNext(i, 2 * (40 + below(40)) + below(2));
        }
        setBad(2 * (60 + below(20)));
    }

    // ---- calls

    private void anyCall() {
        int pick = below(100);
        if (pick < changes) {
            changeCall();
        } else if (pick < 20) {
            machineCall();
        } else if (pick < 50) {
            proofCall();
        } else if (pick < 66) {
            questionCall();
        } else if (pick < 87) {
            listCall();
        } else {
            rowCall();
        }
    }

    private void changeCall() {
        switch (below(9)) {
            case 0:
                addBit();
                break;
            case 1:
                addInput();
                break;
            case 2:
                addGate(anySign(), anySign());
                break;
            case 3:
            case 4:
            case 5:
                setNext(either(below(parts() + 1), 90), anySign());
                break;
            case 6:
                setBad(anySign());
                break;
            case 7:
                assume(anySign());
                break;
            default:
                fair(anySign());
        }
    }

    private int anyState() {
        return either(below(1 << plain.count(1)), 300);
    }

    private int anyChoices() {
        return either(below(1 << plain.count(2)), 20);
    }

    private int anyFrame() {
        return below(3) == 0 ? either(below(26), 30) : 1 + below(Math.max(plain.frames(), 1));
    }

    private void machineCall() {
        int sign = anySign();
        int state = anyState();
        int choices = anyChoices();
        int what = either(below(3), 5);
        switch (below(6)) {
            case 0:
                int part = either(below(parts() + 1), 90);
                check("part", real.part(part, what), plain.part(part, what), part, what);
                break;
            case 1:
                int counted = either(below(8), 10);
                check("count", real.count(counted), plain.count(counted), counted);
                break;
            case 2:
                check("start", real.start(), plain.start());
                break;
            case 3:
                check("step", real.step(choices), plain.step(choices), choices);
                break;
            case 4:
                check("value", real.value(sign, choices), plain.value(sign, choices), sign, choices);
                break;
            default:
                check("at", real.at(state, choices, what), plain.at(state, choices, what), state, choices, what);
        }
    }

    private void proofCall() {
        int k = anyFrame();
        int i = either(below(12), 30);
        switch (below(12)) {
            case 0:
            case 1:
            case 2:
                int looks = either(below(3) == 0 ? 5000 : 1 + below(40), 5003);
                int answer = check("prove", real.prove(looks), plain.prove(looks), looks);
                if (answer >= 0) {
                    proved[answer]++;
                    fullFrames += answer == 3 && plain.frames() < 23 ? 1 : 0;
                }
                break;
            case 3:
                check("frames", real.frames(), plain.frames());
                break;
            case 4:
                check("clauses", real.clauses(k), plain.clauses(k), k);
                break;
            case 5:
            case 6:
                int has = k < 1 || k > 24 ? 1 : Math.max(plain.clauses(k), 1);
                int at = either(below(has), has + 2);
                boolean values = random.nextBoolean();
                check("clause", real.clause(k, at, values), plain.clause(k, at, values), k, at, values);
                break;
            case 7:
                int what = either(below(2), 3);
                check("trouble", real.trouble(i, what), plain.trouble(i, what), i, what);
                break;
            case 8:
                check("way", real.way(), plain.way());
                break;
            case 9:
                check("wayState", real.wayState(i), plain.wayState(i), i);
                break;
            case 10:
                check("wayChoice", real.wayChoice(i), plain.wayChoice(i), i);
                break;
            default:
                wallsTooLong += check("take", real.take(), plain.take()) == -8 ? 1 : 0;
        }
    }

    private void questionCall() {
        int k = anyFrame();
        int mask = either(below(1 << plain.count(1)), 300);
        int values = either(mask & anyState(), 300);
        switch (below(9)) {
            case 0:
            case 1:
                check("ask", real.ask(k, mask, values), plain.ask(k, mask, values), k, mask, values);
                break;
            case 2:
            case 3:
                check("widen", real.widen(k, mask, values), plain.widen(k, mask, values), k, mask, values);
                break;
            case 4:
                check("shortest", real.shortest(), plain.shortest());
                break;
            case 5:
                int n = either(below(20), 300);
                check("within", real.within(n), plain.within(n), n);
                break;
            case 6:
                check("keeps", real.keeps(k), plain.keeps(k), k);
                break;
            case 7:
                check("cone", real.cone(), plain.cone());
                break;
            default:
                if (below(4) == 0) {
                    lives += check("live", real.live(), plain.live()) >= 0 ? 1 : 0;
                }
        }
    }

    private void listCall() {
        int mask = either(below(1 << plain.count(1)), 300);
        int values = either(mask & anyState(), 300);
        int size = Math.max(plain.count(7), 1);
        int i = either(below(size), 100);
        boolean flag = random.nextBoolean();
        switch (below(14)) {
            case 0:
            case 1:
            case 2:
                check("list", real.list(mask, values), plain.list(mask, values), mask, values);
                break;
            case 3:
            case 4:
                int bit = either(below(9), 20);
                check("forge", real.forge(i, bit, flag), plain.forge(i, bit, flag), i, bit, flag);
                break;
            case 5:
                if (below(6) == 0) {
                    check("clear", real.clear(), plain.clear());
                }
                break;
            case 6:
            case 7:
            case 8:
                judged[check("judge", real.judge(), plain.judge())]++;
                break;
            case 9:
            case 10:
                int what = either(below(2), 4);
                check("fails", real.fails(what), plain.fails(what), what);
                break;
            case 11:
                shrunk += check("small", real.small(), plain.small()) >= 0 ? 1 : 0;
                break;
            case 12:
                fillWithWall();
                break;
            default:
                check("listed", real.listed(i, flag), plain.listed(i, flag), i, flag);
        }
    }

    /** Proves, takes the wall and puts some more clauses behind it. */
    private void fillWithWall() {
        check("prove", real.prove(5000), plain.prove(5000), 5000);
        check("take", real.take(), plain.take());
        int more = below(20) == 0 ? 100 : below(4);
        for (int j = 0; j < more && told.size() < CALLS - 1; j++) {
            int mask = (1 << plain.count(1)) - 1;
            int values = below(mask + 1);
            check("list", real.list(mask, values), plain.list(mask, values), mask, values);
        }
        check("judge", real.judge(), plain.judge());
    }

    private void rowCall() {
        int state = anyState();
        int choices = anyChoices();
        int i = either(below(parts() + 2), 90);
        int j = either(below(parts() + 2), 90);
        int n = either(below(parts() + 1) / 2, 90);
        int by = either(-2 - below(7), 9);
        switch (below(8)) {
            case 0:
            case 1:
                check("lay", real.lay(state, choices), plain.lay(state, choices), state, choices);
                break;
            case 2:
                if (below(3) == 0) {
                    check("tear", real.tear(), plain.tear());
                }
                break;
            case 3:
            case 4:
                check("row", real.row(i), plain.row(i), i);
                break;
            case 5:
            case 6:
                check("copy", real.copy(i, j, n), plain.copy(i, j, n), i, j, n);
                break;
            default:
                check("status", real.status(by), plain.status(by), by);
        }
    }
}
