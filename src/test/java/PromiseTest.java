/** Each promise of the document by hand: ordinary inputs, the edges that it names, wrong inputs. */
public final class PromiseTest {
    private static final int NONE = -1, MISSING = -2, BEYOND = -3, BELOW = -4, KIND = -5, COPY = -6, NO = -7, FULL = -8;
    private static final int TOP = Integer.MAX_VALUE;
    private static final int LOW = Integer.MIN_VALUE;

    private static int wrong = 0;
    private static int checks = 0;
    private static String promise = "";

    public static void main(String[] args) {
        constants();
        newObject();
        bits();
        inputs();
        gates();
        nexts();
        bads();
        assumptions();
        fairOnes();
        changes();
        partsTold();
        counts();
        starts();
        stepsOfTheRun();
        values();
        anyStates();
        proofStepByStep();
        proofEnds();
        proofFull();
        proofOrder();
        framesAndClauses();
        troubles();
        ways();
        takes();
        asks();
        widens();
        shortestWays();
        withins();
        keeps();
        cones();
        lives();
        lists();
        forges();
        clears();
        judges();
        smalls();
        listeds();
        lays();
        rows();
        copies();
        statuses();
        System.out.println(checks + " checks, " + wrong + " wrong");
        if (wrong != 0) {
            System.exit(1);
        }
    }

    private static void due(String call, int got, int want) {
        checks++;
        if (got != want) {
            wrong++;
            System.out.println("promise " + promise + ": " + call + " answered " + got + ", due is " + want);
        }
    }

    private static void constants() {
        promise = "constants";
        due("NONE", FrameProver.NONE, -1);
        due("MISSING", FrameProver.MISSING, -2);
        due("BEYOND", FrameProver.BEYOND, -3);
        due("BELOW", FrameProver.BELOW, -4);
        due("KIND", FrameProver.KIND, -5);
        due("COPY", FrameProver.COPY, -6);
        due("NO", FrameProver.NO, -7);
        due("FULL", FrameProver.FULL, -8);
    }

    private static void newObject() {
        promise = "1";
        FrameProver x = new FrameProver();
        for (int what = 0; what < 8; what++) {
            due("count(" + what + ")", x.count(what), 0);
        }
        for (int by = -8; by <= -2; by++) {
            due("status(" + by + ")", x.status(by), 0);
        }
        due("frames()", x.frames(), 0);
        due("start()", x.start(), 0);
        due("fails(0)", x.fails(0), NONE);
        due("fails(1)", x.fails(1), NONE);
        due("clauses(1)", x.clauses(1), 0);
        due("trouble(0, 0)", x.trouble(0, 0), NONE);
        due("bad(-1)", x.bad(-1), NONE);
        due("way()", x.way(), MISSING);
        due("tear()", x.tear(), 0);
        due("shortest()", x.shortest(), NONE);
        due("step(0)", x.step(0), 0);
    }

    private static void bits() {
        promise = "2";
        FrameProver x = new FrameProver();
        due("bit", x.bit(true, false), 0);
        due("start", x.start(), 1);
        due("bit", x.bit(false, true), 1);
        due("bit", x.bit(true, true), 2);
        due("start", x.start(), 5);
        due("part", x.part(0, 0), 1);
        due("part", x.part(1, 0), 2);
        for (int i = 3; i < 8; i++) {
            due("bit", x.bit(false, false), i);
        }
        due("the ninth bit", x.bit(false, false), FULL);
        due("the ninth bit, held", x.bit(false, true), FULL);
        due("count", x.count(1), 8);
        due("count", x.count(0), 8);
        due("step", x.step(0), 5);

        FrameProver y = new FrameProver();
        y.bit(false, false);
        for (int i = 1; i < 80; i++) {
            due("gate", y.gate(0, 0), i);
        }
        due("bit where parts are full", y.bit(false, false), FULL);
        due("count", y.count(1), 1);
        due("status", y.status(FULL), 1);
    }

    private static void inputs() {
        promise = "3";
        FrameProver x = new FrameProver();
        x.bit(false, false);
        for (int i = 1; i <= 4; i++) {
            due("at with choices beyond", x.at(0, 1 << (i - 1), 0), BEYOND);
            due("input", x.input(), i);
            due("at with the last choices", x.at(0, (1 << i) - 1, 0), 0);
        }
        due("the fifth input", x.input(), FULL);
        due("count", x.count(2), 4);
        due("part", x.part(4, 0), 3);

        FrameProver y = new FrameProver();
        y.input();
        while (y.count(0) < 80) {
            y.gate(0, 1);
        }
        due("input where parts are full", y.input(), FULL);
        due("count", y.count(2), 1);
    }

    private static void gates() {
        promise = "4";
        FrameProver x = new FrameProver();
        due("gate of nothing", x.gate(0, 0), BEYOND);
        x.bit(false, false);
        x.input();
        due("gate", x.gate(1, 2), 2);
        due("gate", x.gate(5, 4), 3);
        due("x beyond", x.gate(8, 0), BEYOND);
        due("y beyond", x.gate(0, 8), BEYOND);
        due("x below", x.gate(-1, 0), BEYOND);
        due("y below", x.gate(0, -1), BEYOND);
        due("y far", x.gate(0, TOP), BEYOND);
        due("x far below", x.gate(LOW, 0), BEYOND);
        due("the last sign", x.gate(7, 7), 4);
        int[] state = {0, 0, 1, 1};
        int[] choices = {0, 1, 0, 1};
        int[] and = {0, 1, 0, 0};
        for (int i = 0; i < 4; i++) {
            x.lay(state[i], choices[i]);
            due("not bit and input", x.row(2), and[i]);
            due("a sign and its denial", x.row(3), 0);
            due("a denial twice", x.row(4), 1);
        }
        while (x.count(0) < 80) {
            x.gate(0, 0);
        }
        due("the 81st part", x.gate(0, 0), FULL);
        due("BEYOND comes first", x.gate(160, 0), BEYOND);
        due("count", x.count(3), 78);
    }

    private static void nexts() {
        promise = "5";
        FrameProver x = new FrameProver();
        x.bit(true, false);
        x.bit(false, true);
        x.input();
        x.gate(0, 4);
        due("its own at first", x.next(0, 7), 0);
        due("the one before", x.next(0, 2), 7);
        due("the same again", x.next(0, 2), 2);
        due("its own denial", x.next(0, 1), 2);
        due("held", x.next(1, 0), KIND);
        due("input", x.next(2, 0), KIND);
        due("gate", x.next(3, 0), KIND);
        due("part beyond", x.next(4, 0), BEYOND);
        due("part below", x.next(-1, 0), BEYOND);
        due("sign beyond", x.next(0, 8), BEYOND);
        due("sign below", x.next(0, -1), BEYOND);
        due("BEYOND comes first", x.next(2, 8), BEYOND);
        due("nothing changed", x.part(0, 1), 1);
        due("step", x.step(0), 0);
        due("step", x.step(0), 1);
        due("next of an input", x.next(0, 4), 1);
        due("step", x.step(1), 1);
        due("step", x.step(0), 0);
        due("next of a gate that comes later", x.next(0, 7), 4);
        due("at", x.at(1, 1, 0), 0);
        due("at", x.at(1, 0, 0), 1);
        due("a held one stays", x.at(3, 1, 0), 2);
    }

    private static void bads() {
        promise = "6";
        FrameProver x = new FrameProver();
        due("no part", x.bad(0), BEYOND);
        due("none", x.bad(NONE), NONE);
        x.bit(false, false);
        due("first", x.bad(0), NONE);
        due("then", x.bad(1), 0);
        due("beyond", x.bad(2), BEYOND);
        due("below NONE", x.bad(-2), BEYOND);
        due("far below", x.bad(LOW), BEYOND);
        due("it stays", x.at(0, 0, 2), 1);
        due("taken away", x.bad(NONE), 1);
        due("none is bad", x.at(0, 0, 2), 0);
        due("none is bad", x.shortest(), NONE);
        due("again", x.bad(1), NONE);
    }

    private static void assumptions() {
        promise = "7";
        FrameProver x = new FrameProver();
        due("no part", x.assume(0), BEYOND);
        x.bit(false, false);
        x.input();
        due("first", x.assume(2), 1);
        due("not right", x.at(0, 0, 1), 0);
        due("right", x.at(0, 1, 1), 1);
        due("second", x.assume(1), 2);
        due("right", x.at(0, 1, 1), 1);
        due("not right", x.at(1, 1, 1), 0);
        due("the same once more", x.assume(1), 3);
        due("beyond", x.assume(4), BEYOND);
        due("below", x.assume(NONE), BEYOND);
        due("fourth", x.assume(1), 4);
        due("fifth", x.assume(1), FULL);
        due("BEYOND comes first", x.assume(4), BEYOND);
        due("count", x.count(4), 4);
    }

    private static void fairOnes() {
        promise = "8";
        FrameProver x = new FrameProver();
        due("no part", x.fair(0), BEYOND);
        x.bit(false, false);
        due("first", x.fair(0), 1);
        due("second", x.fair(1), 2);
        due("beyond", x.fair(2), BEYOND);
        due("below", x.fair(-1), BEYOND);
        due("third", x.fair(1), 3);
        due("fourth", x.fair(1), FULL);
        due("BEYOND comes first", x.fair(-1), BEYOND);
        due("count", x.count(5), 3);
    }

    private interface Change {
        int on(FrameProver x);
    }

    /** What changes the machine takes away what was proved; what is refused does not. */
    private static void changes() {
        promise = "terms 1";
        Change[] done = {
            x -> x.bit(false, false), x -> x.input(), x -> x.gate(0, 0), x -> x.next(0, 3), x -> x.next(0, 2),
            x -> x.bad(6), x -> x.bad(NONE), x -> x.assume(1), x -> x.fair(0)
        };
        for (Change change : done) {
            FrameProver x = ended();
            due("it is done", change.on(x) < -1 ? 0 : 1, 1);
            due("frames()", x.frames(), 0);
            due("way()", x.way(), MISSING);
            due("clauses(1)", x.clauses(1), 0);
            due("trouble(0, 0)", x.trouble(0, 0), NONE);
            due("count(6)", x.count(6), 0);
            due("count(7)", x.count(7), 0);
            due("value(0)", x.value(0, 0), 0);
            due("the row stays", x.row(0), 1);
            due("the latest judge() stays", x.fails(0), 3);
        }
        Change[] refused = {
            x -> x.gate(0, 99), x -> x.next(2, 0), x -> x.next(0, 99), x -> x.bad(99), x -> x.assume(99),
            x -> x.fair(-1), x -> x.step(2), x -> x.prove(0), x -> x.list(9, 0)
        };
        for (Change change : refused) {
            FrameProver x = ended();
            due("it is refused", change.on(x) < -1 ? 1 : 0, 1);
            due("frames()", x.frames(), 2);
            due("way()", x.way(), 2);
            due("clauses(1)", x.clauses(1), 1);
            due("trouble(0, 0)", x.trouble(0, 0), 3);
            due("count(6)", x.count(6), 4);
            due("count(7)", x.count(7), 1);
            due("value(0)", x.value(0, 0), 1);
        }
        FrameProver wall = new FrameProver();
        wall.bit(false, false);
        wall.bad(0);
        wall.prove(1);
        due("a wall", wall.take(), 1);
        wall.fair(0);
        due("no wall now", wall.take(), MISSING);
        due("no list now", wall.count(7), 0);
    }

    private static FrameProver ended() {
        FrameProver x = Machines.twoBits();
        x.prove(5000);
        x.list(0, 0);
        x.clear();
        x.judge();
        x.list(2, 2);
        x.step(0);
        x.lay(1, 0);
        return x;
    }

    private static void partsTold() {
        promise = "9";
        FrameProver x = new FrameProver();
        due("nothing", x.part(0, 0), BEYOND);
        x.bit(false, false);
        x.bit(false, true);
        x.input();
        x.gate(3, 4);
        int[][] due = {{1, 0, NONE}, {2, 2, NONE}, {3, NONE, NONE}, {0, 3, 4}};
        for (int part = 0; part < 4; part++) {
            for (int what = 0; what < 3; what++) {
                due("part(" + part + ", " + what + ")", x.part(part, what), due[part][what]);
            }
            due("what beyond", x.part(part, 3), NO);
            due("what below", x.part(part, -1), NO);
        }
        due("part beyond", x.part(4, 0), BEYOND);
        due("part below", x.part(-1, 0), BEYOND);
        due("BEYOND comes first", x.part(4, 9), BEYOND);
        x.next(0, 6);
        due("next", x.part(0, 1), 6);
    }

    private static void counts() {
        promise = "10";
        FrameProver x = new FrameProver();
        x.bit(false, false);
        x.bit(true, true);
        x.bit(false, true);
        x.input();
        x.input();
        for (int i = 0; i < 4; i++) {
            x.gate(0, 1);
        }
        x.assume(6);
        x.fair(0);
        x.fair(1);
        x.fair(1);
        int[] due = {9, 3, 2, 4, 1, 3, 0, 0};
        for (int what = 0; what < 8; what++) {
            due("count(" + what + ")", x.count(what), due[what]);
        }
        x.list(1, 0);
        x.list(1, 0);
        due("the same clause twice", x.count(7), 2);
        due("beyond", x.count(8), NO);
        due("below", x.count(-1), NO);
        FrameProver y = Machines.twoBits();
        y.prove(1);
        due("looks", y.count(6), 1);
        y.prove(2);
        due("looks in all", y.count(6), 3);
        y.prove(5000);
        due("looks in all", y.count(6), 4);
        y.prove(5000);
        due("what has ended looks no more", y.count(6), 4);
    }

    private static void starts() {
        promise = "11";
        FrameProver x = Machines.twoBits();
        x.step(0);
        x.step(1);
        due("value", x.value(2, 0), 1);
        due("start", x.start(), 0);
        due("value", x.value(2, 0), 0);
        FrameProver y = new FrameProver();
        y.bit(false, false);
        y.bit(true, false);
        due("start", y.start(), 2);
    }

    private static void stepsOfTheRun() {
        promise = "12";
        FrameProver x = Machines.twoBits();
        int[] due = {1, 3, 2, 0, 1};
        for (int i = 0; i < 5; i++) {
            due("step", x.step(i % 2), due[i]);
        }
        due("beyond", x.step(2), BEYOND);
        due("below", x.step(-1), BEYOND);
        due("far", x.step(TOP), BEYOND);
        due("it stands where it stood", x.step(0), 3);
        x.assume(5);
        due("at the beginning", x.step(0), 1);
        due("not right", x.step(1), NO);
        due("BEYOND comes first", x.step(2), BEYOND);
        due("it stands where it stood", x.step(0), 3);
    }

    private static void values() {
        promise = "13";
        FrameProver x = new FrameProver();
        due("no sign", x.value(0, 0), BEYOND);
        x.bit(true, false);
        x.input();
        x.input();
        x.gate(2, 5);
        x.assume(2);
        due("bit", x.value(0, 0), 1);
        due("its denial", x.value(1, 0), 0);
        for (int choices = 0; choices < 4; choices++) {
            due("input 0", x.value(2, choices), choices & 1);
            due("input 1", x.value(4, choices), choices >> 1);
            due("not input 1", x.value(5, choices), 1 - (choices >> 1));
            due("gate", x.value(6, choices), choices == 1 ? 1 : 0);
        }
        due("sign beyond", x.value(8, 0), BEYOND);
        due("sign below", x.value(-1, 0), BEYOND);
        due("choices beyond", x.value(0, 4), BEYOND);
        due("choices below", x.value(0, -1), BEYOND);
        x.next(0, 1);
        x.step(1);
        due("bit", x.value(0, 0), 0);
    }

    private static void anyStates() {
        promise = "14";
        FrameProver x = new FrameProver();
        x.bit(false, false);
        x.bit(false, false);
        x.input();
        x.gate(0, 4);
        x.next(1, 6);
        x.assume(5);
        x.bad(2);
        due("goes", x.at(3, 0, 0), 1);
        due("not right", x.at(3, 1, 0), NONE);
        due("right", x.at(3, 0, 1), 1);
        due("not right", x.at(3, 1, 1), 0);
        due("bad", x.at(2, 0, 2), 1);
        due("bad, not right", x.at(2, 1, 2), 0);
        due("right, not bad", x.at(1, 0, 2), 0);
        due("the run stays", x.start(), 0);
        due("state beyond", x.at(4, 0, 0), BEYOND);
        due("state below", x.at(-1, 0, 0), BEYOND);
        due("choices beyond", x.at(0, 2, 0), BEYOND);
        due("choices below", x.at(0, -1, 0), BEYOND);
        due("what beyond", x.at(0, 0, 3), NO);
        due("what below", x.at(0, 0, -1), NO);
        due("BEYOND comes first", x.at(4, 0, 3), BEYOND);
        due("BEYOND comes first", x.at(0, 2, 3), BEYOND);
    }

    private static void proofStepByStep() {
        promise = "15";
        FrameProver x = Machines.twoBits();
        due("one look", x.prove(1), 0);
        due("N", x.frames(), 2);
        due("the first frame learned", x.clauses(1), 1);
        due("mask", x.clause(1, 0, false), 2);
        due("values", x.clause(1, 0, true), 2);
        due("it is not pushed", x.clauses(2), 0);
        due("trouble", x.trouble(0, 0), 3);
        due("of frame", x.trouble(0, 1), 2);
        due("no second one", x.trouble(1, 0), NONE);
        due("one look more", x.prove(1), 0);
        due("trouble", x.trouble(1, 0), 1);
        due("of frame", x.trouble(1, 1), 1);
        due("one look more", x.prove(1), 0);
        due("trouble", x.trouble(2, 0), 0);
        due("of frame", x.trouble(2, 1), 0);
        due("no way yet", x.way(), MISSING);
        due("one look more", x.prove(1), 2);
        due("way", x.way(), 2);
        due("it stays so", x.prove(1), 2);
        due("below", x.prove(-1), BELOW);
        due("far below", x.prove(LOW), BELOW);
        due("0", x.prove(0), NO);
        due("above", x.prove(5001), NO);
        due("far above", x.prove(TOP), NO);
        due("it stays so", x.prove(5000), 2);
        FrameProver y = Machines.twoBits();
        due("refused", y.prove(0), NO);
        due("refused", y.prove(-1), BELOW);
        due("nothing began", y.frames(), 0);
        due("just as many looks as there are", y.prove(4), 2);
    }

    private static void proofEnds() {
        FrameProver none = new FrameProver();
        due("no bad: a wall of nothing", none.prove(1), 1);
        due("N", none.frames(), 1);
        due("no look", none.count(6), 0);
        due("take", none.take(), 0);

        FrameProver now = new FrameProver();
        now.bit(true, false);
        now.input();
        now.bad(now.gate(0, 2) * 2);
        due("the beginning is bad", now.prove(1), 2);
        due("N", now.frames(), 1);
        due("way", now.way(), 0);
        due("state", now.wayState(0), 1);
        due("choices", now.wayChoice(0), 1);
        due("no trouble", now.trouble(0, 0), NONE);
        due("no look", now.count(6), 0);

        FrameProver self = new FrameProver();
        self.bit(false, false);
        self.bad(0);
        due("a state that leads to itself alone", self.prove(1), 1);
        due("clause", self.clause(1, 0, false), 1);
        due("clause", self.clause(1, 0, true), 1);
        due("take", self.take(), 1);

        FrameProver blocked = new FrameProver();
        blocked.bit(true, false);
        blocked.bad(0);
        blocked.assume(1);
        due("bad, but never right", blocked.prove(1), 1);
        due("no look", blocked.count(6), 0);
    }

    private static void proofFull() {
        FrameProver near = Machines.register(23);
        due("in 23 steps", near.prove(5000), 2);
        due("N", near.frames(), 23);
        due("way", near.way(), 23);
        FrameProver x = Machines.register(24);
        due("N would be 24", x.prove(5000), 3);
        due("N", x.frames(), 23);
        due("frames have room", x.clauses(1), 84);
        due("no trouble", x.trouble(0, 0), NONE);
        due("no wall", x.take(), MISSING);
        due("no way", x.way(), MISSING);
        due("it stays so", x.prove(1), 3);

        FrameProver y = Machines.frameOf201();
        due("a frame would have 201 clauses", y.prove(5000), 3);
        due("N", y.frames(), 3);
        due("the first frame", y.clauses(1), 200);
        due("the second frame", y.clauses(2), 192);
        due("looks", y.count(6), 201);
        due("its trouble stays", y.trouble(0, 0), 254);
        due("of frame", y.trouble(0, 1), 3);
        due("it stays so", y.prove(5000), 3);
        due("N", y.frames(), 3);
    }

    /** Where the document says least, first, or last one. */
    private static void proofOrder() {
        promise = "15, order";
        // Bits a, b, c from 0; the inputs are the next a and b; c comes of a and b; c is bad.
        FrameProver x = new FrameProver();
        for (int i = 0; i < 3; i++) {
            x.bit(false, false);
        }
        x.input();
        x.input();
        x.next(0, 6);
        x.next(1, 8);
        x.next(2, Machines.and(x, 0, 2));
        x.bad(4);
        due("prove", x.prove(1), 0);
        due("clause 0 of frame 1", x.clause(1, 0, false), 4);
        due("clause 0 of frame 1", x.clause(1, 0, true), 4);
        due("the least bad one", x.trouble(0, 0), 4);
        due("prove", x.prove(1), 0);
        due("its least forerunner", x.trouble(1, 0), 3);
        due("prove", x.prove(5000), 2);
        due("way", x.way(), 2);
        due("choices", x.wayChoice(0), 3);
        due("the least choices", x.wayChoice(1), 0);
        due("the last state", x.wayState(2), 4);

        // Bits stay but for the last, which is never 1 again: 4 .. 7 lead down.
        FrameProver y = new FrameProver();
        for (int i = 0; i < 3; i++) {
            y.bit(false, false);
        }
        y.next(2, Machines.and(y, 0, 1));
        y.bad(Machines.and(y, 4, 0));
        due("prove", y.prove(5000), 1);
        due("only what the cube needs is left", y.clause(1, 0, false), 4);
        due("bit 0 was left out first", y.clause(1, 0, true), 4);
        due("pushed", y.clauses(2), 1);
    }

    private static void framesAndClauses() {
        promise = "16 to 18";
        FrameProver x = Machines.twoBits();
        due("frames", x.frames(), 0);
        due("k 0", x.clauses(0), BEYOND);
        due("k 25", x.clauses(25), BEYOND);
        due("k below", x.clauses(-1), BEYOND);
        due("k 24", x.clauses(24), 0);
        due("no clause", x.clause(1, 0, true), BEYOND);
        x.prove(5000);
        due("frames", x.frames(), 2);
        due("clauses", x.clauses(1), 1);
        due("mask", x.clause(1, 0, false), 2);
        due("values", x.clause(1, 0, true), 2);
        due("i beyond", x.clause(1, 1, false), BEYOND);
        due("i below", x.clause(1, -1, false), BEYOND);
        due("k 0", x.clause(0, 0, false), BEYOND);
        due("k 25", x.clause(25, 0, false), BEYOND);
        due("k far", x.clause(TOP, 0, false), BEYOND);

        // The same cube may come to a lower frame a second time.
        promise = "18, twice";
        FrameProver y = Machines.counter(2, 3);
        y.prove(5000);
        due("frames", y.frames(), 3);
        for (int k = 1; k < 24; k++) {
            due("a later frame has not more", y.clauses(k) >= y.clauses(k + 1) ? 1 : 0, 1);
        }
    }

    private static void troubles() {
        promise = "19";
        FrameProver x = Machines.twoBits();
        due("none yet", x.trouble(0, 0), NONE);
        due("none yet", x.trouble(0, 1), NONE);
        x.prove(2);
        due("first", x.trouble(0, 0), 3);
        due("first", x.trouble(0, 1), 2);
        due("second", x.trouble(1, 0), 1);
        due("second", x.trouble(1, 1), 1);
        due("not so many", x.trouble(2, 0), NONE);
        due("not so many", x.trouble(TOP, 1), NONE);
        due("below", x.trouble(-1, 0), BELOW);
        due("what", x.trouble(0, 2), NO);
        due("what", x.trouble(9, -1), NO);
        due("BELOW comes first", x.trouble(-1, 2), BELOW);
        x.prove(9);
        due("they stay where a way is found", x.trouble(2, 0), 0);
        due("they stay where a way is found", x.trouble(2, 1), 0);
    }

    private static void ways() {
        promise = "20 to 22";
        FrameProver x = Machines.twoBits();
        due("way", x.way(), MISSING);
        due("state", x.wayState(0), MISSING);
        due("choices", x.wayChoice(0), MISSING);
        due("MISSING comes first", x.wayState(-1), MISSING);
        due("MISSING comes first", x.wayChoice(99), MISSING);
        x.prove(9);
        due("way", x.way(), 2);
        int[] states = {0, 1, 3};
        for (int i = 0; i < 3; i++) {
            due("state", x.wayState(i), states[i]);
            due("choices", x.wayChoice(i), 0);
        }
        due("beyond", x.wayState(3), BEYOND);
        due("below", x.wayState(-1), BEYOND);
        due("beyond", x.wayChoice(3), BEYOND);
        due("below", x.wayChoice(-1), BEYOND);

        // One bit that an input sets, another input lets see; the third must be 1.
        FrameProver y = new FrameProver();
        y.bit(false, false);
        y.input();
        y.input();
        y.next(0, 2);
        y.assume(4);
        y.bad(Machines.and(y, 0, 3));
        due("prove", y.prove(99), 2);
        due("way", y.way(), 1);
        due("the least right choices that lead there", y.wayChoice(0), 3);
        due("the least right choices that are bad", y.wayChoice(1), 2);
    }

    private static void takes() {
        promise = "23";
        FrameProver x = Machines.counter(2, 3);
        due("not proved", x.take(), MISSING);
        x.prove(5000);
        due("a way is no wall", x.take(), MISSING);

        FrameProver y = new FrameProver();
        y.bit(false, false);
        y.bit(true, true);
        y.bad(Machines.and(y, 0, 2));
        y.list(0, 0);
        y.list(3, 0);
        due("prove", y.prove(5000), 1);
        due("the list is another then", y.take(), 1);
        due("mask", y.listed(0, false), 1);
        due("values", y.listed(0, true), 1);
        due("judge", y.judge(), 0);
        y.list(1, 0);
        due("again", y.take(), 1);
        due("the frames stay", y.clauses(1), 1);

        FrameProver hundred = Machines.wallOf100();
        due("prove", hundred.prove(5000), 1);
        due("a wall of 100", hundred.take(), 100);
        due("count", hundred.count(7), 100);
        due("judge", hundred.judge(), 0);
        due("list", hundred.list(0, 0), FULL);
        FrameProver more = Machines.wallOf101();
        due("prove", more.prove(5000), 1);
        more.list(0, 0);
        due("a wall of 101", more.take(), FULL);
        due("the list stays", more.count(7), 1);
    }

    private static void asks() {
        promise = "24";
        FrameProver x = Machines.twoBits();
        due("from the beginning", x.ask(0, 3, 1), 0);
        due("from the beginning alone", x.ask(0, 3, 3), NONE);
        due("from any state", x.ask(1, 3, 3), 1);
        due("from any state", x.ask(24, 3, 2), 3);
        due("the least of two", x.ask(1, 1, 1), 0);
        due("the beginning is in it", x.ask(0, 2, 0), NONE);
        due("all states are in it", x.ask(5, 0, 0), NONE);
        due("frame", x.ask(25, 3, 3), BEYOND);
        due("frame", x.ask(-1, 3, 3), BEYOND);
        due("mask", x.ask(0, 4, 0), NO);
        due("mask", x.ask(0, -1, 0), NO);
        due("values", x.ask(0, 1, 2), NO);
        due("values", x.ask(0, 3, -1), NO);
        due("values", x.ask(0, 3, 4), NO);
        due("BEYOND comes first", x.ask(25, 4, 0), BEYOND);
        x.prove(1);
        due("3 and 2 are kept out of frame 1", x.ask(1, 3, 2), NONE);
        due("not out of frame 2", x.ask(2, 3, 2), 3);
        x.assume(5);
        due("by right choices", x.ask(1, 3, 3), 1);
        x.assume(4);
        due("no step is right", x.ask(1, 3, 3), NONE);
    }

    private static void widens() {
        promise = "25";
        FrameProver x = Machines.twoBits();
        due("bit 0 goes", x.widen(1, 3, 3), 2);
        due("bit 0 goes", x.widen(1, 3, 2), 2);
        due("1 comes from the beginning", x.widen(1, 3, 1), NO);
        due("the beginning is in it", x.widen(1, 3, 0), NO);
        due("the beginning is in it", x.widen(1, 0, 0), NO);
        due("it comes from frame 1", x.widen(2, 3, 3), NO);
        due("frame", x.widen(0, 3, 3), BEYOND);
        due("frame", x.widen(25, 3, 3), BEYOND);
        due("mask", x.widen(1, 4, 4), NO);
        due("values", x.widen(1, 1, 2), NO);
        due("BEYOND comes first", x.widen(0, 4, 4), BEYOND);
        due("nothing was learned", x.clauses(1), 0);
        // In a machine that stands still, all bits but one that differs go, the later ones last.
        FrameProver y = new FrameProver();
        y.bit(false, false);
        y.bit(true, false);
        y.bit(false, false);
        due("of bits 0 and 2 the later one stays", y.widen(24, 7, 7), 4);
        due("bit 1 differs", y.widen(24, 7, 4), 4);
        due("bit 0 alone differs", y.widen(24, 7, 3), 1);
        due("what is not in the mask stays out", y.widen(24, 3, 1), 2);
        // A bit that follows another: a cube may not be left by widening what leads into it.
        FrameProver z = new FrameProver();
        z.bit(false, false);
        z.bit(false, false);
        z.next(1, 0);
        due("1 leads into 2 and 3", z.widen(2, 2, 2), NO);
        due("3 comes from 1", z.widen(2, 3, 3), NO);
        due("1 is wider without bit 1", z.widen(2, 1, 1), 1);
    }

    private static void shortestWays() {
        promise = "26";
        due("two steps", Machines.twoBits().shortest(), 2);
        due("far", Machines.counter(8, 255).shortest(), 255);
        due("at once", Machines.counter(3, 0).shortest(), 0);
        due("one step", Machines.counter(3, 1).shortest(), 1);
        FrameProver x = Machines.twoBits();
        x.bad(NONE);
        due("none is bad", x.shortest(), NONE);
        x.bad(6);
        x.assume(1);
        due("from 1 no step leads", x.shortest(), NONE);
    }

    private static void withins() {
        promise = "27";
        FrameProver x = Machines.twoBits();
        int[] due = {1, 2, 3, 4, 4, 4};
        for (int n = 0; n < due.length; n++) {
            due("within(" + n + ")", x.within(n), due[n]);
        }
        due("far", x.within(TOP), 4);
        due("below", x.within(-1), BELOW);
        due("below", x.within(LOW), BELOW);
        FrameProver y = Machines.counter(8, 7);
        due("of 256", y.within(254), 255);
        due("of 256", y.within(255), 256);
        due("of 256", y.within(256), 256);
        FrameProver z = new FrameProver();
        z.bit(false, false);
        z.next(0, 2 * z.input());
        due("two at once", z.within(1), 2);
        z.assume(3);
        due("by right choices", z.within(1), 1);
    }

    private static void keeps() {
        promise = "28";
        FrameProver x = Machines.twoBits();
        due("no clause", x.keeps(24), 1);
        due("beyond", x.keeps(0), BEYOND);
        due("beyond", x.keeps(25), BEYOND);
        due("below", x.keeps(-1), BEYOND);
        x.prove(5000);
        due("frame 1", x.keeps(1), 1);
        due("frame 2", x.keeps(2), 1);
        // What a frame keeps out never comes within its steps: so it is 1 wherever one asks.
        FrameProver y = Machines.counter(4, 12);
        y.prove(20);
        for (int k = 1; k <= 24; k++) {
            due("keeps(" + k + ")", y.keeps(k), 1);
        }
    }

    private static void cones() {
        promise = "29";
        FrameProver x = new FrameProver();
        due("nothing is bad", x.cone(), MISSING);
        for (int i = 0; i < 5; i++) {
            x.bit(false, i == 3);
        }
        x.input();
        due("nothing is bad", x.cone(), MISSING);
        int gate = Machines.and(x, 2, 10);
        x.bad(gate ^ 1);
        due("bit 1", x.cone(), 2);
        x.next(1, 8);
        due("next of bit 1 is bit 4", x.cone(), 18);
        x.next(4, Machines.and(x, 7, 8));
        due("next of bit 4 hangs on bit 3", x.cone(), 26);
        x.next(0, 4);
        due("bit 0 hangs on bit 2, none on bit 0", x.cone(), 26);
        x.assume(1);
        due("an assumption hangs on bit 0", x.cone(), 31);
        FrameProver y = new FrameProver();
        for (int i = 0; i < 8; i++) {
            y.bit(false, false);
        }
        for (int i = 0; i < 7; i++) {
            y.next(i, 2 * (i + 1));
        }
        y.bad(1);
        due("a chain", y.cone(), 255);
        y.bad(9);
        due("from bit 4 on", y.cone(), 240);
        y.bad(NONE);
        y.assume(0);
        due("an assumption alone is asked for nothing", y.cone(), MISSING);
        FrameProver z = new FrameProver();
        z.input();
        z.bad(0);
        due("an input alone", z.cone(), 0);
    }

    private static void lives() {
        promise = "30";
        due("a circle of all", Machines.twoBits().live(), 0);
        // 0 leads to 1 and stays there.
        FrameProver x = new FrameProver();
        x.bit(false, false);
        x.next(0, Machines.and(x, 0, 1) ^ 1);
        due("0 does not come again", x.live(), 1);
        x.fair(1);
        due("0 is not again and again", x.live(), NONE);
        // 1 leads nowhere.
        FrameProver y = new FrameProver();
        y.bit(false, false);
        y.next(0, Machines.and(y, 0, 1) ^ 1);
        y.assume(1);
        due("a run that ends", y.live(), NONE);
        // 3 turns round by itself, but never comes.
        FrameProver z = new FrameProver();
        z.bit(false, false);
        z.assume(0);
        due("what never comes", z.live(), NONE);

        promise = "30, fair ones";
        FrameProver f = new FrameProver();
        f.bit(false, false);
        f.input();
        f.next(0, 2);
        f.fair(2);
        due("an input on a step that stays", f.live(), 0);
        f.fair(1);
        due("each of two, at other places", f.live(), 0);
        f.assume(1);
        due("the step that has it leads out", f.live(), NONE);

        // An input at 0 chooses for ever: bit 0 is set for good, with it bit 1 or not.
        FrameProver g = new FrameProver();
        g.bit(false, false);
        g.bit(false, false);
        g.input();
        int first = Machines.and(g, 1, 4);
        g.next(0, Machines.and(g, 0, 1) ^ 1);
        g.next(1, Machines.and(g, first ^ 1, Machines.and(g, 0, 2) ^ 1) ^ 1);
        due("1 and 3 stay", g.live(), 1);
        g.fair(2);
        due("3 has bit 1", g.live(), 3);
        g.fair(3);
        due("no run has both", g.live(), NONE);
        due("no part", new FrameProver().live(), 0);
    }

    private static void lists() {
        promise = "31";
        FrameProver x = Machines.twoBits();
        due("first", x.list(3, 2), 1);
        due("the same again", x.list(3, 2), 2);
        due("all", x.list(0, 0), 3);
        due("mask", x.list(4, 0), NO);
        due("mask", x.list(-1, 0), NO);
        due("values", x.list(1, 2), NO);
        due("values", x.list(1, -1), NO);
        due("values", x.list(3, LOW), NO);
        due("count", x.count(7), 3);
        for (int i = 4; i <= 100; i++) {
            due("list", x.list(1, 1), i);
        }
        due("the 101st", x.list(1, 1), FULL);
        due("NO comes first", x.list(1, 2), NO);
        due("count", x.count(7), 100);
        x.clear();
        due("room again", x.list(1, 1), 1);
    }

    private static void forges() {
        promise = "32";
        FrameProver x = Machines.twoBits();
        due("no clause", x.forge(0, 0, true), BEYOND);
        x.list(3, 2);
        x.list(1, 1);
        due("a value", x.forge(0, 0, false), 1);
        due("mask", x.listed(0, false), 3);
        due("values", x.listed(0, true), 3);
        due("a value", x.forge(0, 1, false), 1);
        due("values", x.listed(0, true), 1);
        due("the bit goes, its value with it", x.forge(0, 0, true), 1);
        due("mask", x.listed(0, false), 2);
        due("values", x.listed(0, true), 0);
        due("it comes with 0", x.forge(0, 0, true), 1);
        due("mask", x.listed(0, false), 3);
        due("values", x.listed(0, true), 0);
        due("another clause", x.listed(1, true), 1);
        due("not in the mask", x.forge(1, 1, false), NO);
        due("i", x.forge(2, 0, true), BEYOND);
        due("i", x.forge(-1, 0, true), BEYOND);
        due("no such bit", x.forge(0, 2, true), BEYOND);
        due("no such bit", x.forge(0, 7, false), BEYOND);
        due("no such bit", x.forge(0, 8, true), BEYOND);
        due("no such bit", x.forge(0, -1, true), BEYOND);
        due("BEYOND comes first", x.forge(1, 2, false), BEYOND);
        x.clear();
        x.list(3, 3);
        due("judge", x.judge(), 2);
        x.forge(0, 0, false);
        x.forge(0, 1, false);
        due("judged as forged", x.judge(), 1);
        FrameProver y = Machines.counter(8, 255);
        y.list(255, 255);
        due("bit 7", y.forge(0, 7, true), 1);
        due("mask", y.listed(0, false), 127);
        due("values", y.listed(0, true), 127);
        due("bit 8", y.forge(0, 8, true), BEYOND);
    }

    private static void clears() {
        promise = "33";
        FrameProver x = Machines.twoBits();
        due("empty", x.clear(), 0);
        x.list(3, 0);
        x.list(3, 1);
        due("two", x.clear(), 2);
        due("empty", x.clear(), 0);
        due("gone", x.listed(0, true), BEYOND);
        due("all are left in", x.judge(), 3);
    }

    private static void judges() {
        promise = "34, 35";
        FrameProver x = Machines.twoBits();
        due("3 is left in", x.judge(), 3);
        due("state", x.fails(0), 3);
        due("to", x.fails(1), NONE);
        x.list(3, 3);
        due("1 leads to 3", x.judge(), 2);
        due("state", x.fails(0), 1);
        due("to", x.fails(1), 3);
        x.list(3, 1);
        due("0 leads to 1", x.judge(), 2);
        due("state", x.fails(0), 0);
        due("to", x.fails(1), 1);
        x.list(2, 0);
        due("the beginning is kept out", x.judge(), 1);
        due("state", x.fails(0), 0);
        due("to", x.fails(1), NONE);
        due("what", x.fails(2), NO);
        due("what", x.fails(-1), NO);
        x.clear();
        due("of the latest judge()", x.fails(0), 0);
        x.list(3, 0);
        due("(1) comes before (3)", x.judge(), 1);
        x.clear();
        x.list(3, 1);
        due("(3) comes before (2)", x.judge(), 3);
        due("state", x.fails(0), 3);

        FrameProver y = new FrameProver();
        y.bit(false, false);
        y.bit(true, false);
        y.input();
        y.next(0, 4);
        y.bad(0);
        due("the least bad one", y.judge(), 3);
        due("state", y.fails(0), 1);
        y.assume(5);
        due("bad still", y.judge(), 3);
        y.list(1, 1);
        due("a wall", y.judge(), 0);
        due("state", y.fails(0), NONE);
        due("to", y.fails(1), NONE);
        FrameProver z = new FrameProver();
        z.bit(true, true);
        z.bit(false, false);
        z.bit(false, false);
        z.input();
        z.input();
        z.next(1, 6);
        z.next(2, 8);
        z.list(7, 7);
        z.list(7, 5);
        due("to two of them", z.judge(), 2);
        due("the least that leads", z.fails(0), 1);
        due("the least to which", z.fails(1), 5);
    }

    private static void smalls() {
        promise = "36";
        FrameProver x = new FrameProver();
        x.bit(false, false);
        x.bit(false, false);
        x.next(0, 2);
        x.next(1, 0);
        x.bad(0);
        due("no wall", x.small(), NO);
        x.list(3, 3);
        x.list(1, 1);
        x.list(2, 2);
        x.list(3, 3);
        due("the first and the last go", x.small(), 2);
        due("mask", x.listed(0, false), 1);
        due("values", x.listed(0, true), 1);
        due("mask", x.listed(1, false), 2);
        due("values", x.listed(1, true), 2);
        due("no third", x.listed(2, false), BEYOND);
        due("judge", x.judge(), 0);
        due("again", x.small(), 2);
        x.clear();
        x.list(3, 3);
        x.list(3, 2);
        x.list(3, 1);
        x.list(1, 1);
        due("from the first one on", x.small(), 2);
        due("mask", x.listed(0, false), 3);
        due("values", x.listed(0, true), 2);
        due("mask", x.listed(1, false), 1);
        due("values", x.listed(1, true), 1);
        due("small() is no judge()", x.fails(0), NONE);
        x.clear();
        due("judge", x.judge(), 3);
        x.list(1, 1);
        x.list(2, 2);
        x.small();
        due("small() is no judge()", x.fails(0), 1);
        x.clear();
        x.list(2, 2);
        due("not closed", x.small(), NO);
        due("nothing is taken", x.count(7), 1);
        x.list(0, 0);
        due("the beginning is out", x.small(), NO);
        FrameProver y = new FrameProver();
        y.bit(false, false);
        due("an empty wall", y.small(), 0);
        y.list(1, 1);
        y.list(1, 1);
        due("nothing is needed", y.small(), 0);
        due("count", y.count(7), 0);
    }

    private static void listeds() {
        promise = "37";
        FrameProver x = Machines.twoBits();
        due("nothing", x.listed(0, false), BEYOND);
        x.list(3, 1);
        x.list(2, 0);
        due("mask", x.listed(0, false), 3);
        due("values", x.listed(0, true), 1);
        due("mask", x.listed(1, false), 2);
        due("values", x.listed(1, true), 0);
        due("beyond", x.listed(2, true), BEYOND);
        due("below", x.listed(-1, true), BEYOND);
        due("far", x.listed(TOP, true), BEYOND);
    }

    private static void lays() {
        promise = "38";
        FrameProver x = Machines.twoBits();
        due("lay", x.lay(3, 1), 5);
        int[] due = {1, 1, 1, 1, 0};
        for (int i = 0; i < 5; i++) {
            due("row", x.row(i), due[i]);
        }
        due("state", x.lay(4, 0), BEYOND);
        due("state", x.lay(-1, 0), BEYOND);
        due("choices", x.lay(0, 2), BEYOND);
        due("choices", x.lay(0, -1), BEYOND);
        due("it stays", x.row(0), 1);
        x.lay(0, 0);
        int[] due2 = {0, 0, 0, 0, 1};
        for (int i = 0; i < 5; i++) {
            due("row", x.row(i), due2[i]);
        }
        x.gate(0, 0);
        due("as long as it was laid", x.row(5), BEYOND);
        due("longer now", x.lay(0, 0), 6);
        due("row", x.row(5), 0);
        due("the run stays", x.value(0, 0), 0);
        due("nothing to lay", new FrameProver().lay(0, 0), 0);
    }

    private static void rows() {
        promise = "39, 40";
        FrameProver x = Machines.twoBits();
        due("missing", x.row(0), MISSING);
        due("MISSING comes first", x.row(-1), MISSING);
        due("tear", x.tear(), 0);
        x.lay(1, 0);
        due("row", x.row(0), 1);
        due("last", x.row(4), 0);
        due("beyond", x.row(5), BEYOND);
        due("below", x.row(-1), BEYOND);
        due("far", x.row(TOP), BEYOND);
        due("tear", x.tear(), 1);
        due("tear", x.tear(), 0);
        due("missing", x.row(0), MISSING);
    }

    private static void copies() {
        promise = "41";
        FrameProver x = Machines.twoBits();
        due("missing", x.copy(0, 0, 1), MISSING);
        due("MISSING comes first", x.copy(-1, 0, -1), MISSING);
        x.lay(1, 0);
        due("forward, over itself", x.copy(0, 1, 4), 4);
        int[] due = {1, 1, 0, 0, 0};
        for (int i = 0; i < 5; i++) {
            due("row", x.row(i), due[i]);
        }
        due("back, over itself", x.copy(1, 0, 4), 4);
        int[] due2 = {1, 0, 0, 0, 0};
        for (int i = 0; i < 5; i++) {
            due("row", x.row(i), due2[i]);
        }
        due("all", x.copy(0, 0, 5), 5);
        due("nothing, at the end", x.copy(5, 5, 0), 0);
        due("nothing, behind the end", x.copy(6, 0, 0), COPY);
        due("nothing, behind the end", x.copy(0, 6, 0), COPY);
        due("n below", x.copy(0, 0, -1), BELOW);
        due("BELOW comes first", x.copy(-1, 9, -1), BELOW);
        due("i below", x.copy(-1, 0, 1), COPY);
        due("j below", x.copy(0, -1, 1), COPY);
        due("i + n", x.copy(2, 0, 4), COPY);
        due("j + n", x.copy(0, 2, 4), COPY);
        due("too large a sum", x.copy(TOP, 0, TOP), COPY);
        due("too large a sum", x.copy(1, 0, TOP), COPY);
        due("too large a sum", x.copy(0, TOP, 1), COPY);
        due("it stays", x.row(0), 1);
        due("to the last place", x.copy(0, 4, 1), 1);
        due("row", x.row(4), 1);
    }

    private static void statuses() {
        promise = "42";
        FrameProver x = new FrameProver();
        x.way();
        x.way();
        x.bad(0);
        x.bad(0);
        x.bad(0);
        x.prove(-1);
        x.input();
        x.next(0, 0);
        x.lay(0, 0);
        x.copy(0, 0, 9);
        x.count(99);
        x.count(98);
        x.count(97);
        x.count(96);
        for (int i = 0; i < 5; i++) {
            x.input();
        }
        int[] due = {2, 3, 1, 1, 1, 4, 2};
        for (int by = -2; by >= -8; by--) {
            due("status(" + by + ")", x.status(by), due[-by - 2]);
        }
        due("another number", x.status(-1), NO);
        due("another number", x.status(-9), NO);
        due("another number", x.status(0), NO);
        due("another number", x.status(LOW), NO);
        due("another number", x.status(TOP), NO);
        due("these are refused too", x.status(NO), 9);
        due("NONE is no refusal", x.trouble(0, 0), NONE);
        due("status", x.status(MISSING), 2);
    }
}
