/**
 * A prover for small machines of bits: it shows that a bad state never comes
 * by a wall of clauses that closes step by step, or brings the way to it.
 */
public final class FrameProver {
    public static final int NONE = -1;
    public static final int MISSING = -2;
    public static final int BEYOND = -3;
    public static final int BELOW = -4;
    public static final int KIND = -5;
    public static final int COPY = -6;
    public static final int NO = -7;
    public static final int FULL = -8;

    private static final int MOST_PARTS = 80;
    private static final int MOST_BITS = 8;
    private static final int MOST_INPUTS = 4;
    private static final int MOST_ASSUMED = 4;
    private static final int MOST_FAIR = 3;
    private static final int MOST_STATES = 256;
    private static final int LAST_FRAME = 24;
    private static final int MOST_IN_FRAME = 200;
    private static final int MOST_LISTED = 100;
    private static final int MOST_LOOKS = 5000;

    private static final int GATE = 0;
    private static final int BIT = 1;
    private static final int HELD = 2;
    private static final int INPUT = 3;

    private static final int SPENT = 0;
    private static final int WALL_FOUND = 1;
    private static final int WAY_FOUND = 2;
    private static final int NO_ROOM = 3;

    private static final int SOUND = 0;
    private static final int BEGINNING_OUT = 1;
    private static final int NOT_CLOSED = 2;
    private static final int BAD_IN = 3;

    private final Machine machine;
    private final Steps steps;
    private final Frames frames;
    private final Proof proof;
    private final Clauses list;
    private final Judge judge;
    private final Row row;
    private final int[] refused;
    private int run;

    public FrameProver() {
        machine = new Machine();
        steps = new Steps(machine);
        frames = new Frames(machine, steps);
        proof = new Proof(machine, steps, frames);
        list = new Clauses(MOST_LISTED);
        judge = new Judge(machine, steps, list);
        row = new Row();
        refused = new int[1 - FULL];
        startAnew();
    }

    // ---- the machine

    public int bit(boolean first, boolean held) {
        if (machine.isFull() || machine.bits >= MOST_BITS) {
            return refuse(FULL);
        }
        int part = machine.addBit(first, held);
        startAnew();
        return part;
    }

    public int input() {
        if (machine.isFull() || machine.inputs >= MOST_INPUTS) {
            return refuse(FULL);
        }
        int part = machine.addInput();
        startAnew();
        return part;
    }

    public int gate(int x, int y) {
        if (!machine.hasSign(x) || !machine.hasSign(y)) {
            return refuse(BEYOND);
        }
        if (machine.isFull()) {
            return refuse(FULL);
        }
        int part = machine.addPart(GATE, x, y);
        startAnew();
        return part;
    }

    public int next(int part, int sign) {
        if (!machine.hasPart(part) || !machine.hasSign(sign)) {
            return refuse(BEYOND);
        }
        if (machine.kindOf(part) != BIT) {
            return refuse(KIND);
        }
        int before = machine.setNext(part, sign);
        startAnew();
        return before;
    }

    public int bad(int sign) {
        if (sign != NONE && !machine.hasSign(sign)) {
            return refuse(BEYOND);
        }
        int before = machine.badSign;
        machine.badSign = sign;
        startAnew();
        return before;
    }

    public int assume(int sign) {
        return addSign(sign, machine.assumed);
    }

    public int fair(int sign) {
        return addSign(sign, machine.fairs);
    }

    public int part(int part, int what) {
        if (!machine.hasPart(part)) {
            return refuse(BEYOND);
        }
        switch (what) {
            case 0:
                return machine.kindOf(part);
            case 1:
                return machine.firstSign(part);
            case 2:
                return machine.secondSign(part);
            default:
                return refuse(NO);
        }
    }

    public int count(int what) {
        switch (what) {
            case 0:
                return machine.parts;
            case 1:
                return machine.bits;
            case 2:
                return machine.inputs;
            case 3:
                return machine.parts - machine.bits - machine.inputs;
            case 4:
                return machine.assumed.size;
            case 5:
                return machine.fairs.size;
            case 6:
                return proof.looks;
            case 7:
                return list.size;
            default:
                return refuse(NO);
        }
    }

    // ---- a run

    public int start() {
        run = machine.beginning;
        return run;
    }

    public int step(int choices) {
        if (!machine.hasChoices(choices)) {
            return refuse(BEYOND);
        }
        machine.evaluate(run);
        if (!machine.isRight(choices)) {
            return refuse(NO);
        }
        run = machine.stateAfter(choices);
        return run;
    }

    public int value(int sign, int choices) {
        if (!machine.hasSign(sign) || !machine.hasChoices(choices)) {
            return refuse(BEYOND);
        }
        machine.evaluate(run);
        return machine.signLanes(sign) >> choices & 1;
    }

    public int at(int state, int choices, int what) {
        if (!machine.hasState(state) || !machine.hasChoices(choices)) {
            return refuse(BEYOND);
        }
        machine.evaluate(state);
        switch (what) {
            case 0:
                return machine.isRight(choices) ? machine.stateAfter(choices) : NONE;
            case 1:
                return machine.rightLanes() >> choices & 1;
            case 2:
                return machine.badLanes() >> choices & 1;
            default:
                return refuse(NO);
        }
    }

    // ---- proving

    public int prove(int n) {
        if (n < 0) {
            return refuse(BELOW);
        }
        if (n == 0 || n > MOST_LOOKS) {
            return refuse(NO);
        }
        steps.renew();
        return proof.goOn(n);
    }

    public int frames() {
        return proof.n;
    }

    public int clauses(int k) {
        if (!isLaterFrame(k)) {
            return refuse(BEYOND);
        }
        return frames.frame(k).size;
    }

    public int clause(int k, int i, boolean values) {
        if (!isLaterFrame(k) || !frames.frame(k).hasIndex(i)) {
            return refuse(BEYOND);
        }
        return halfOf(frames.frame(k).cubeAt(i), values);
    }

    public int trouble(int i, int what) {
        if (i < 0) {
            return refuse(BELOW);
        }
        switch (what) {
            case 0:
                return proof.troubleState(i);
            case 1:
                return proof.troubleFrame(i);
            default:
                return refuse(NO);
        }
    }

    public int way() {
        if (!proof.hasWay()) {
            return refuse(MISSING);
        }
        return proof.waySteps();
    }

    public int wayState(int i) {
        if (!proof.hasWay()) {
            return refuse(MISSING);
        }
        if (i < 0 || i > proof.waySteps()) {
            return refuse(BEYOND);
        }
        return proof.stateOfWay(i);
    }

    public int wayChoice(int i) {
        if (!proof.hasWay()) {
            return refuse(MISSING);
        }
        if (i < 0 || i > proof.waySteps()) {
            return refuse(BEYOND);
        }
        return proof.choiceOfWay(i);
    }

    public int take() {
        if (!proof.hasWall()) {
            return refuse(MISSING);
        }
        Clauses wall = frames.frame(proof.wallFrame);
        if (wall.size > MOST_LISTED) {
            return refuse(FULL);
        }
        list.becomeLike(wall);
        return list.size;
    }

    // ---- questions

    public int ask(int k, int mask, int values) {
        if (k != 0 && !isLaterFrame(k)) {
            return refuse(BEYOND);
        }
        if (!isCube(mask, values)) {
            return refuse(NO);
        }
        steps.renew();
        return frames.leastInto(k, cubeOf(mask, values));
    }

    public int widen(int k, int mask, int values) {
        if (!isLaterFrame(k)) {
            return refuse(BEYOND);
        }
        if (!isCube(mask, values)) {
            return refuse(NO);
        }
        steps.renew();
        int cube = cubeOf(mask, values);
        if (!frames.canKeepOut(k, cube)) {
            return refuse(NO);
        }
        return maskOf(frames.widened(k, cube));
    }

    public int shortest() {
        steps.renew();
        return steps.fewestToBad();
    }

    public int within(int n) {
        if (n < 0) {
            return refuse(BELOW);
        }
        steps.renew();
        return steps.reached(n).howMany();
    }

    public int keeps(int k) {
        if (!isLaterFrame(k)) {
            return refuse(BEYOND);
        }
        steps.renew();
        return steps.reached(k).isInside(frames.frame(k).left) ? 1 : 0;
    }

    public int cone() {
        if (machine.badSign == NONE) {
            return refuse(MISSING);
        }
        return machine.coneBits();
    }

    public int live() {
        steps.renew();
        return steps.leastForEver();
    }

    // ---- the list

    public int list(int mask, int values) {
        if (!isCube(mask, values)) {
            return refuse(NO);
        }
        if (!list.put(cubeOf(mask, values))) {
            return refuse(FULL);
        }
        return list.size;
    }

    public int forge(int i, int bit, boolean mask) {
        if (!list.hasIndex(i) || bit < 0 || bit >= machine.bits) {
            return refuse(BEYOND);
        }
        int cube = list.cubeAt(i);
        boolean inMask = (maskOf(cube) >> bit & 1) == 1;
        if (!mask && !inMask) {
            return refuse(NO);
        }
        int turned = 1 << bit;
        if (!mask) {
            list.change(i, cubeOf(maskOf(cube), valuesOf(cube) ^ turned));
        } else {
            list.change(i, cubeOf(maskOf(cube) ^ turned, valuesOf(cube) & ~turned));
        }
        return 1;
    }

    public int clear() {
        int had = list.size;
        list.restart(machine.states());
        return had;
    }

    public int judge() {
        steps.renew();
        return judge.judgeList();
    }

    public int fails(int what) {
        switch (what) {
            case 0:
                return judge.failedWith;
            case 1:
                return judge.failedTo;
            default:
                return refuse(NO);
        }
    }

    public int small() {
        steps.renew();
        if (judge.fault() != SOUND) {
            return refuse(NO);
        }
        return judge.shrinkList();
    }

    public int listed(int i, boolean values) {
        if (!list.hasIndex(i)) {
            return refuse(BEYOND);
        }
        return halfOf(list.cubeAt(i), values);
    }

    // ---- rows

    public int lay(int state, int choices) {
        if (!machine.hasState(state) || !machine.hasChoices(choices)) {
            return refuse(BEYOND);
        }
        machine.evaluate(state);
        row.layOut(machine, choices);
        return row.size;
    }

    public int tear() {
        int was = row.isThere ? 1 : 0;
        row.isThere = false;
        return was;
    }

    public int row(int i) {
        if (!row.isThere) {
            return refuse(MISSING);
        }
        if (i < 0 || i >= row.size) {
            return refuse(BEYOND);
        }
        return row.number(i);
    }

    public int copy(int i, int j, int n) {
        if (!row.isThere) {
            return refuse(MISSING);
        }
        if (n < 0) {
            return refuse(BELOW);
        }
        if (!row.hasStretch(i, n) || !row.hasStretch(j, n)) {
            return refuse(COPY);
        }
        row.moveStretch(i, j, n);
        return n;
    }

    public int status(int by) {
        if (by > MISSING || by < FULL) {
            return refuse(NO);
        }
        return refused[-by];
    }

    // ---- what the calls share

    private int refuse(int by) {
        if (by <= MISSING && by >= FULL) {
            refused[-by]++;
        }
        return by;
    }

    private void startAnew() {
        steps.isStale = true;
        frames.restart();
        proof.forget();
        list.restart(machine.states());
        run = machine.beginning;
    }

    private int addSign(int sign, Signs signs) {
        if (!machine.hasSign(sign)) {
            return refuse(BEYOND);
        }
        if (!signs.put(sign)) {
            return refuse(FULL);
        }
        startAnew();
        return signs.size;
    }

    private static boolean isLaterFrame(int k) {
        return k >= 1 && k <= LAST_FRAME;
    }

    private boolean isCube(int mask, int values) {
        return machine.hasState(mask) && (values & ~mask) == 0;
    }

    // A cube goes about as one number, so that clauses compare by ==.

    private static int cubeOf(int mask, int values) {
        return mask << MOST_BITS | values;
    }

    private static int maskOf(int cube) {
        return cube >> MOST_BITS;
    }

    private static int valuesOf(int cube) {
        return cube & (1 << MOST_BITS) - 1;
    }

    private static int halfOf(int cube, boolean values) {
        return values ? valuesOf(cube) : maskOf(cube);
    }

    private static boolean isInCube(int state, int cube) {
        return (state & maskOf(cube)) == valuesOf(cube);
    }

    /** Some SIGNS in the order in which they came. */
    private static final class Signs {
        private final int[] signs;
        int size;

        Signs(int most) {
            signs = new int[Math.max(most, 0)];
        }

        boolean put(int sign) {
            if (size < 0 || size >= signs.length) {
                return false;
            }
            signs[size] = sign;
            size++;
            return true;
        }

        int signAt(int i) {
            return i >= 0 && i < size && i < signs.length ? signs[i] : NONE;
        }
    }

    /**
     * The PARTS and their values in one STATE. The values with all CHOICES are
     * found at once: bit c of a part's lanes is its value with CHOICES c.
     */
    private static final class Machine {
        private static final int ALL_LANES = 0xFFFF;
        private static final int[] INPUT_LANES = {0xAAAA, 0xCCCC, 0xF0F0, 0xFF00};

        private final int[] kinds = new int[MOST_PARTS];
        /** The SIGN x of a GATE, NEXT of a BIT. */
        private final int[] firstSigns = new int[MOST_PARTS];
        private final int[] secondSigns = new int[MOST_PARTS];
        /** Which of the BITS, or of the INPUTS, a part is. */
        private final int[] places = new int[MOST_PARTS];
        private final int[] partsOfBits = new int[MOST_BITS];
        private final int[] lanes = new int[MOST_PARTS];
        private final boolean[] hangs = new boolean[MOST_PARTS];
        final Signs assumed = new Signs(MOST_ASSUMED);
        final Signs fairs = new Signs(MOST_FAIR);
        int badSign = NONE;
        int parts;
        int bits;
        int inputs;
        int beginning;

        boolean isFull() {
            return parts >= MOST_PARTS;
        }

        int addPart(int kind, int firstSign, int secondSign) {
            int part = parts;
            if (part < 0 || part >= MOST_PARTS) {
                return NONE;
            }
            kinds[part] = kind;
            firstSigns[part] = firstSign;
            secondSigns[part] = secondSign;
            parts++;
            return part;
        }

        int addBit(boolean first, boolean held) {
            int part = addPart(held ? HELD : BIT, 2 * parts, NONE);
            if (!hasPart(part) || bits < 0 || bits >= MOST_BITS) {
                return NONE;
            }
            places[part] = bits;
            partsOfBits[bits] = part;
            if (first) {
                beginning |= 1 << bits;
            }
            bits++;
            return part;
        }

        int addInput() {
            int part = addPart(INPUT, NONE, NONE);
            if (!hasPart(part)) {
                return NONE;
            }
            places[part] = inputs;
            inputs++;
            return part;
        }

        int setNext(int part, int sign) {
            if (!hasPart(part)) {
                return NONE;
            }
            int before = firstSigns[part];
            firstSigns[part] = sign;
            return before;
        }

        boolean hasPart(int part) {
            return part >= 0 && part < parts && part < MOST_PARTS;
        }

        boolean hasSign(int sign) {
            return sign >= 0 && hasPart(sign >> 1);
        }

        int states() {
            return 1 << bits;
        }

        int choicesInAll() {
            return 1 << inputs;
        }

        boolean hasState(int state) {
            return state >= 0 && state < states();
        }

        boolean hasChoices(int choices) {
            return choices >= 0 && choices < choicesInAll();
        }

        int kindOf(int part) {
            return hasPart(part) ? kinds[part] : NONE;
        }

        int firstSign(int part) {
            return hasPart(part) ? firstSigns[part] : NONE;
        }

        int secondSign(int part) {
            return hasPart(part) ? secondSigns[part] : NONE;
        }

        void evaluate(int state) {
            for (int part = 0; part < parts && part < MOST_PARTS; part++) {
                lanes[part] = lanesIn(part, state);
            }
        }

        /** Right only where the parts before it are evaluated in that state. */
        private int lanesIn(int part, int state) {
            if (!hasPart(part)) {
                return 0;
            }
            int place = places[part];
            switch (kinds[part]) {
                case GATE:
                    return signLanes(firstSigns[part]) & signLanes(secondSigns[part]);
                case INPUT:
                    return place >= 0 && place < INPUT_LANES.length ? INPUT_LANES[place] : 0;
                default:
                    return (state >> place & 1) == 1 ? ALL_LANES : 0;
            }
        }

        int partLanes(int part) {
            return hasPart(part) ? lanes[part] : 0;
        }

        /** No lane of NONE is 1. */
        int signLanes(int sign) {
            int part = sign >> 1;
            if (part < 0 || part >= parts || part >= MOST_PARTS) {
                return 0;
            }
            return (sign & 1) == 0 ? lanes[part] : ~lanes[part] & ALL_LANES;
        }

        int rightLanes() {
            int right = (1 << choicesInAll()) - 1;
            for (int i = 0; i < assumed.size; i++) {
                right &= signLanes(assumed.signAt(i));
            }
            return right;
        }

        int badLanes() {
            return rightLanes() & signLanes(badSign);
        }

        boolean isRight(int choices) {
            return (rightLanes() >> choices & 1) == 1;
        }

        int stateAfter(int choices) {
            int state = 0;
            for (int i = 0; i < bits && i < MOST_BITS; i++) {
                int nextLanes = signLanes(firstSign(partsOfBits[i]));
                state |= (nextLanes >> choices & 1) << i;
            }
            return state;
        }

        int leastChoicesTo(int state) {
            int right = rightLanes();
            for (int choices = 0; choices < choicesInAll(); choices++) {
                if ((right >> choices & 1) == 1 && stateAfter(choices) == state) {
                    return choices;
                }
            }
            return NONE;
        }

        int leastChoicesOfBad() {
            int bad = badLanes();
            for (int choices = 0; choices < choicesInAll(); choices++) {
                if ((bad >> choices & 1) == 1) {
                    return choices;
                }
            }
            return NONE;
        }

        /**
         * GATES hang on parts before them alone, so one pass from the last part
         * down closes them all; each further pass leads over one more NEXT.
         */
        int coneBits() {
            for (int part = 0; part < MOST_PARTS; part++) {
                hangs[part] = false;
            }
            markSign(badSign);
            for (int i = 0; i < assumed.size; i++) {
                markSign(assumed.signAt(i));
            }
            for (int pass = 0; pass <= MOST_BITS; pass++) {
                markPass();
            }
            int cone = 0;
            for (int i = 0; i < bits && i < MOST_BITS; i++) {
                if (isMarked(partsOfBits[i])) {
                    cone |= 1 << i;
                }
            }
            return cone;
        }

        private void markPass() {
            for (int part = parts - 1; part >= 0; part--) {
                if (isMarked(part)) {
                    markSign(firstSign(part));
                    markSign(secondSign(part));
                }
            }
        }

        private boolean isMarked(int part) {
            return hasPart(part) && hangs[part];
        }

        private void markSign(int sign) {
            if (hasSign(sign)) {
                hangs[sign >> 1] = true;
            }
        }
    }

    /** A set of STATES, one bit for each. */
    private static final class StateSet {
        private static final int WORDS = 4;
        private static final int IN_WORD = 64;
        /** The places in a word whose number has bit 0, bit 1, .. bit 5. */
        private static final long[] ONES = {
            0xAAAAAAAAAAAAAAAAL, 0xCCCCCCCCCCCCCCCCL, 0xF0F0F0F0F0F0F0F0L,
            0xFF00FF00FF00FF00L, 0xFFFF0000FFFF0000L, 0xFFFFFFFF00000000L
        };

        private final long[] words = new long[WORDS];

        boolean has(int state) {
            return state >= 0 && state < MOST_STATES
                && (words[state / IN_WORD] >>> (state % IN_WORD) & 1L) == 1L;
        }

        void put(int state) {
            if (state >= 0 && state < MOST_STATES) {
                words[state / IN_WORD] |= 1L << (state % IN_WORD);
            }
        }

        void becomeEmpty() {
            becomeFirst(0);
        }

        void becomeOnly(int state) {
            becomeFirst(0);
            put(state);
        }

        /** All states below a number. */
        void becomeFirst(int number) {
            for (int w = 0; w < WORDS; w++) {
                int inWord = number - w * IN_WORD;
                if (inWord >= IN_WORD) {
                    words[w] = -1L;
                } else {
                    words[w] = inWord > 0 ? (1L << inWord) - 1L : 0L;
                }
            }
        }

        /** With numbers that are no STATES of a machine of fewer BITS, too. */
        void becomeCube(int cube) {
            int mask = maskOf(cube);
            int values = valuesOf(cube);
            for (int w = 0; w < WORDS; w++) {
                words[w] = wordOfCube(mask, values, w);
            }
        }

        private static long wordOfCube(int mask, int values, int w) {
            long word = -1L;
            for (int bit = 0; bit < MOST_BITS; bit++) {
                if ((mask >> bit & 1) == 1) {
                    long ones = bit < ONES.length ? ONES[bit] : -(w >> (bit - ONES.length) & 1L);
                    word &= (values >> bit & 1) == 1 ? ones : ~ones;
                }
            }
            return word;
        }

        void becomeLike(StateSet other) {
            for (int w = 0; w < WORDS; w++) {
                words[w] = other.words[w];
            }
        }

        void putAll(StateSet other) {
            for (int w = 0; w < WORDS; w++) {
                words[w] |= other.words[w];
            }
        }

        void dropAll(StateSet other) {
            for (int w = 0; w < WORDS; w++) {
                words[w] &= ~other.words[w];
            }
        }

        void dropCube(int cube) {
            int mask = maskOf(cube);
            int values = valuesOf(cube);
            for (int w = 0; w < WORDS; w++) {
                words[w] &= ~wordOfCube(mask, values, w);
            }
        }

        boolean meets(StateSet other) {
            long common = 0L;
            for (int w = 0; w < WORDS; w++) {
                common |= words[w] & other.words[w];
            }
            return common != 0L;
        }

        boolean meetsCube(int cube) {
            int mask = maskOf(cube);
            int values = valuesOf(cube);
            long common = 0L;
            for (int w = 0; w < WORDS; w++) {
                common |= words[w] & wordOfCube(mask, values, w);
            }
            return common != 0L;
        }

        boolean isInside(StateSet other) {
            long outside = 0L;
            for (int w = 0; w < WORDS; w++) {
                outside |= words[w] & ~other.words[w];
            }
            return outside == 0L;
        }

        /** The least state that is here and there, or NONE. */
        int leastCommon(StateSet other) {
            for (int state = 0; state < MOST_STATES; state++) {
                if (has(state) && other.has(state)) {
                    return state;
                }
            }
            return NONE;
        }

        /** The least state that is here and not there, or NONE. */
        int leastOutside(StateSet other) {
            for (int state = 0; state < MOST_STATES; state++) {
                if (has(state) && !other.has(state)) {
                    return state;
                }
            }
            return NONE;
        }

        int howMany() {
            int many = 0;
            for (int w = 0; w < WORDS; w++) {
                many += Long.bitCount(words[w]);
            }
            return many;
        }
    }

    /** To which STATES each one leads, which are BAD, and what follows from that. */
    private static final class Steps {
        private final Machine machine;
        private final StateSet[] goes = new StateSet[MOST_STATES];
        /** To which states each one leads by one step or more; live() alone makes it. */
        private final StateSet[] leads = new StateSet[MOST_STATES];
        private final StateSet none = new StateSet();
        final StateSet bad = new StateSet();
        private final StateSet reached = new StateSet();
        private final StateSet newest = new StateSet();
        private final StateSet coming = new StateSet();
        private final StateSet circle = new StateSet();
        private final StateSet done = new StateSet();
        boolean isStale = true;

        Steps(Machine machine) {
            this.machine = machine;
            for (int state = 0; state < MOST_STATES; state++) {
                goes[state] = new StateSet();
                leads[state] = new StateSet();
            }
        }

        /** Machines are built in many calls and asked later: the steps wait for the first question. */
        void renew() {
            if (!isStale) {
                return;
            }
            isStale = false;
            bad.becomeEmpty();
            for (int state = 0; state < machine.states(); state++) {
                machine.evaluate(state);
                if (machine.badLanes() != 0) {
                    bad.put(state);
                }
                renewFrom(from(state));
            }
        }

        private void renewFrom(StateSet to) {
            to.becomeEmpty();
            int right = machine.rightLanes();
            for (int choices = 0; choices < machine.choicesInAll(); choices++) {
                if ((right >> choices & 1) == 1) {
                    to.put(machine.stateAfter(choices));
                }
            }
        }

        /** The states to which a step leads from this one. */
        StateSet from(int state) {
            return state >= 0 && state < MOST_STATES ? goes[state] : none;
        }

        private StateSet leadsFrom(int state) {
            return state >= 0 && state < MOST_STATES ? leads[state] : none;
        }

        void putAllFrom(StateSet states, StateSet into) {
            for (int state = 0; state < machine.states(); state++) {
                if (states.has(state)) {
                    into.putAll(from(state));
                }
            }
        }

        private void beginReach() {
            reached.becomeOnly(machine.beginning);
            newest.becomeOnly(machine.beginning);
        }

        /** One step more; false if nothing new came. */
        private boolean reachOn() {
            coming.becomeEmpty();
            putAllFrom(newest, coming);
            coming.dropAll(reached);
            newest.becomeLike(coming);
            reached.putAll(coming);
            return newest.howMany() > 0;
        }

        StateSet reached(int most) {
            beginReach();
            boolean goesOn = true;
            for (int n = 0; goesOn && n < most && n < MOST_STATES; n++) {
                goesOn = reachOn();
            }
            return reached;
        }

        int fewestToBad() {
            beginReach();
            for (int n = 0; n < MOST_STATES; n++) {
                if (newest.meets(bad)) {
                    return n;
                }
                if (!reachOn()) {
                    return NONE;
                }
            }
            return NONE;
        }

        /**
         * A run that never ends stays at last in states that all lead to one
         * another, a circle; all of a circle may then come again and again.
         */
        int leastForEver() {
            closeLeads();
            StateSet comes = reached(MOST_STATES);
            done.becomeEmpty();
            for (int state = 0; state < machine.states(); state++) {
                if (comes.has(state) && !done.has(state) && leadsFrom(state).has(state)) {
                    findCircle(state);
                    done.putAll(circle);
                    if (isCircleFair()) {
                        return state;
                    }
                }
            }
            return NONE;
        }

        private void closeLeads() {
            int states = machine.states();
            for (int state = 0; state < states; state++) {
                leadsFrom(state).becomeLike(from(state));
            }
            for (int middle = 0; middle < states; middle++) {
                for (int state = 0; state < states; state++) {
                    if (leadsFrom(state).has(middle)) {
                        leadsFrom(state).putAll(leadsFrom(middle));
                    }
                }
            }
        }

        private void findCircle(int of) {
            circle.becomeEmpty();
            for (int state = 0; state < machine.states(); state++) {
                if (leadsFrom(of).has(state) && leadsFrom(state).has(of)) {
                    circle.put(state);
                }
            }
        }

        private boolean isCircleFair() {
            for (int i = 0; i < machine.fairs.size; i++) {
                if (!isInCircle(machine.fairs.signAt(i))) {
                    return false;
                }
            }
            return true;
        }

        /** Whether a SIGN is 1 in a state with the choices of a step that stays in the circle. */
        private boolean isInCircle(int sign) {
            for (int state = 0; state < machine.states(); state++) {
                if (circle.has(state)) {
                    machine.evaluate(state);
                    int lanes = machine.rightLanes() & machine.signLanes(sign);
                    for (int choices = 0; choices < machine.choicesInAll(); choices++) {
                        if ((lanes >> choices & 1) == 1 && circle.has(machine.stateAfter(choices))) {
                            return true;
                        }
                    }
                }
            }
            return false;
        }
    }

    /** CLAUSES in order, each as the cube that it keeps out, and the states that they leave in. */
    private static final class Clauses {
        private final int[] cubes;
        final StateSet left = new StateSet();
        int size;
        private int states;

        Clauses(int most) {
            cubes = new int[Math.max(most, 0)];
        }

        void restart(int statesInAll) {
            size = 0;
            states = statesInAll;
            left.becomeFirst(statesInAll);
        }

        boolean isFull() {
            return size >= cubes.length;
        }

        boolean hasIndex(int i) {
            return i >= 0 && i < size && i < cubes.length;
        }

        int cubeAt(int i) {
            return hasIndex(i) ? cubes[i] : 0;
        }

        boolean put(int cube) {
            if (size < 0 || size >= cubes.length) {
                return false;
            }
            cubes[size] = cube;
            size++;
            left.dropCube(cube);
            return true;
        }

        boolean hasCube(int cube) {
            for (int i = 0; i < size && i < cubes.length; i++) {
                if (cubes[i] == cube) {
                    return true;
                }
            }
            return false;
        }

        boolean hasAllOf(Clauses other) {
            for (int i = 0; i < other.size; i++) {
                if (!hasCube(other.cubeAt(i))) {
                    return false;
                }
            }
            return true;
        }

        void becomeLike(Clauses other) {
            restart(states);
            for (int i = 0; i < other.size; i++) {
                put(other.cubeAt(i));
            }
        }

        void change(int i, int cube) {
            if (hasIndex(i)) {
                cubes[i] = cube;
                findLeft();
            }
        }

        void takeOut(int i) {
            if (!hasIndex(i)) {
                return;
            }
            for (int at = i; at + 1 < size && at + 1 < cubes.length; at++) {
                cubes[at] = cubes[at + 1];
            }
            size--;
            findLeft();
        }

        void putBack(int i, int cube) {
            if (i < 0 || i > size || isFull()) {
                return;
            }
            for (int at = size; at > i; at--) {
                cubes[at] = cubes[at - 1];
            }
            cubes[i] = cube;
            size++;
            findLeft();
        }

        private void findLeft() {
            left.becomeFirst(states);
            for (int i = 0; i < size && i < cubes.length; i++) {
                left.dropCube(cubes[i]);
            }
        }
    }

    /** FRAME 0 .. 24, and what leads into a cube from them. */
    private static final class Frames {
        private final Machine machine;
        private final Steps steps;
        private final Clauses[] all = new Clauses[LAST_FRAME + 1];
        private final Clauses none = new Clauses(0);
        private final StateSet target = new StateSet();
        private final StateSet coming = new StateSet();

        Frames(Machine machine, Steps steps) {
            this.machine = machine;
            this.steps = steps;
            for (int k = 0; k <= LAST_FRAME; k++) {
                all[k] = new Clauses(k == 0 ? 0 : MOST_IN_FRAME);
            }
        }

        void restart() {
            for (int k = 0; k <= LAST_FRAME; k++) {
                all[k].restart(machine.states());
            }
            frame(0).left.becomeOnly(machine.beginning);
        }

        Clauses frame(int k) {
            return k >= 0 && k <= LAST_FRAME ? all[k] : none;
        }

        /** The least state of a frame, outside of a cube, that leads into it, or NONE. */
        int leastInto(int k, int cube) {
            StateSet left = frame(k).left;
            target.becomeCube(cube);
            for (int state = 0; state < machine.states(); state++) {
                if (left.has(state) && !isInCube(state, cube) && steps.from(state).meets(target)) {
                    return state;
                }
            }
            return NONE;
        }

        boolean canKeepOut(int k, int cube) {
            return !isInCube(machine.beginning, cube) && leastInto(k - 1, cube) == NONE;
        }

        int widened(int k, int cube) {
            int widest = cube;
            for (int i = 0; i < machine.bits; i++) {
                int bit = 1 << i;
                if ((maskOf(widest) & bit) != 0) {
                    int wider = cubeOf(maskOf(widest) & ~bit, valuesOf(widest) & ~bit);
                    if (!isInCube(machine.beginning, wider) && leastInto(k - 1, wider) == NONE) {
                        widest = wider;
                    }
                }
            }
            return widest;
        }

        /** False, and nothing comes, if one of the frames has no room. */
        boolean putUpTo(int k, int cube) {
            for (int j = 1; j <= k && j <= LAST_FRAME; j++) {
                if (all[j].isFull()) {
                    return false;
                }
            }
            for (int j = 1; j <= k && j <= LAST_FRAME; j++) {
                all[j].put(cube);
            }
            return true;
        }

        /** Brings clauses of FRAME k to the one after it; false if that has no room. */
        boolean pushOn(int k) {
            Clauses here = frame(k);
            Clauses there = frame(k + 1);
            coming.becomeEmpty();
            steps.putAllFrom(here.left, coming);
            for (int i = 0; i < here.size; i++) {
                int cube = here.cubeAt(i);
                if (!there.hasCube(cube) && !coming.meetsCube(cube) && !there.put(cube)) {
                    return false;
                }
            }
            return true;
        }
    }

    /** TO PROVE, as far as it has come. */
    private static final class Proof {
        /** Far more than the looks of one call, a new trouble each and a push for every frame. */
        private static final int MOST_TURNS = 1000000;

        private final Machine machine;
        private final Steps steps;
        private final Frames frames;
        private final int[] troubleStates = new int[LAST_FRAME + 1];
        private final int[] troubleFrames = new int[LAST_FRAME + 1];
        private int troubles;
        private int ended;
        int n;
        int looks;
        int wallFrame;

        Proof(Machine machine, Steps steps, Frames frames) {
            this.machine = machine;
            this.steps = steps;
            this.frames = frames;
        }

        void forget() {
            troubles = 0;
            ended = SPENT;
            n = 0;
            looks = 0;
            wallFrame = 0;
        }

        int goOn(int told) {
            if (n == 0) {
                begin();
            }
            int more = told;
            for (int turn = 0; turn < MOST_TURNS && ended == SPENT; turn++) {
                int worst = troubles > 0 ? NONE : frames.frame(n).left.leastCommon(steps.bad);
                if (worst != NONE) {
                    addTrouble(worst, n);
                } else if (troubles == 0) {
                    push();
                } else if (more > 0) {
                    more--;
                    looks++;
                    look();
                } else {
                    return SPENT;
                }
            }
            return ended;
        }

        private void begin() {
            n = 1;
            if (steps.bad.has(machine.beginning)) {
                ended = WAY_FOUND;
            }
        }

        private void look() {
            int state = troubleState(troubles - 1);
            int k = troubleFrame(troubles - 1);
            if (state == machine.beginning) {
                ended = WAY_FOUND;
                return;
            }
            if (!frames.frame(k).left.has(state)) {
                troubles--;
                return;
            }
            int cube = cubeOf(machine.states() - 1, state);
            int forerunner = frames.leastInto(k - 1, cube);
            if (forerunner != NONE) {
                addTrouble(forerunner, k - 1);
            } else if (frames.putUpTo(k, frames.widened(k, cube))) {
                troubles--;
            } else {
                ended = NO_ROOM;
            }
        }

        private void addTrouble(int state, int k) {
            if (troubles >= 0 && troubles < troubleStates.length && troubles < troubleFrames.length) {
                troubleStates[troubles] = state;
                troubleFrames[troubles] = k;
                troubles++;
            }
        }

        private void push() {
            for (int i = 1; i <= n && i < LAST_FRAME; i++) {
                if (!frames.pushOn(i)) {
                    ended = NO_ROOM;
                    return;
                }
            }
            for (int i = 1; i <= n && i < LAST_FRAME; i++) {
                if (frames.frame(i + 1).hasAllOf(frames.frame(i))) {
                    wallFrame = i;
                    ended = WALL_FOUND;
                    return;
                }
            }
            if (n + 1 >= LAST_FRAME) {
                ended = NO_ROOM;
            } else {
                n++;
            }
        }

        int troubleState(int i) {
            return i >= 0 && i < troubles && i < troubleStates.length ? troubleStates[i] : NONE;
        }

        int troubleFrame(int i) {
            return i >= 0 && i < troubles && i < troubleFrames.length ? troubleFrames[i] : NONE;
        }

        boolean hasWall() {
            return ended == WALL_FOUND;
        }

        boolean hasWay() {
            return ended == WAY_FOUND;
        }

        /** The troubles stay as they are once a way is found: it is read from them, the last one first. */
        int waySteps() {
            return Math.max(troubles - 1, 0);
        }

        int stateOfWay(int i) {
            return troubles == 0 ? machine.beginning : troubleState(troubles - 1 - i);
        }

        int choiceOfWay(int i) {
            machine.evaluate(stateOfWay(i));
            if (i >= waySteps()) {
                return machine.leastChoicesOfBad();
            }
            return machine.leastChoicesTo(stateOfWay(i + 1));
        }
    }

    /** Whether THE LIST is a WALL. */
    private static final class Judge {
        private final Machine machine;
        private final Steps steps;
        private final Clauses list;
        int failedWith = NONE;
        int failedTo = NONE;

        Judge(Machine machine, Steps steps, Clauses list) {
            this.machine = machine;
            this.steps = steps;
            this.list = list;
        }

        int fault() {
            if (!list.left.has(machine.beginning)) {
                return BEGINNING_OUT;
            }
            if (list.left.meets(steps.bad)) {
                return BAD_IN;
            }
            return leastThatLeadsOut() == NONE ? SOUND : NOT_CLOSED;
        }

        private int leastThatLeadsOut() {
            for (int state = 0; state < machine.states(); state++) {
                if (list.left.has(state) && !steps.from(state).isInside(list.left)) {
                    return state;
                }
            }
            return NONE;
        }

        int judgeList() {
            int fault = fault();
            failedWith = NONE;
            failedTo = NONE;
            if (fault == BEGINNING_OUT) {
                failedWith = machine.beginning;
            } else if (fault == BAD_IN) {
                failedWith = list.left.leastCommon(steps.bad);
            } else if (fault == NOT_CLOSED) {
                failedWith = leastThatLeadsOut();
                failedTo = steps.from(failedWith).leastOutside(list.left);
            }
            return fault;
        }

        /** Takes clauses from a list that is a wall; how many are left. */
        int shrinkList() {
            int clausesInAll = list.size;
            int kept = 0;
            for (int turn = 0; turn < clausesInAll; turn++) {
                int cube = list.cubeAt(kept);
                list.takeOut(kept);
                if (fault() != SOUND) {
                    list.putBack(kept, cube);
                    kept++;
                }
            }
            return kept;
        }
    }

    /** THE ROW: numbers laid out, some of them copied. */
    private static final class Row {
        private final int[] numbers = new int[MOST_PARTS];
        int size;
        boolean isThere;

        /** The machine is evaluated in the state that is laid. */
        void layOut(Machine machine, int choices) {
            size = Math.min(machine.parts, MOST_PARTS);
            for (int part = 0; part < size && part < MOST_PARTS; part++) {
                numbers[part] = machine.partLanes(part) >> choices & 1;
            }
            isThere = true;
        }

        int number(int i) {
            return i >= 0 && i < size && i < MOST_PARTS ? numbers[i] : NONE;
        }

        /** The place and the length stand apart, since their sum may be too large. */
        boolean hasStretch(int from, int n) {
            return from >= 0 && n >= 0 && n <= size && from <= size - n;
        }

        void moveStretch(int from, int to, int n) {
            if (hasStretch(from, n) && hasStretch(to, n)) {
                System.arraycopy(numbers, from, numbers, to, n);
            }
        }
    }
}
