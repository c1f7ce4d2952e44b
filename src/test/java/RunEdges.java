/** Promises 11 to 14: a run. */
final class RunEdges extends Edges {

    /** Two bits and four inputs; right if input 3 is 0; bit 0 comes of input 0. */
    private static FrameProver choosing() {
        FrameProver x = new FrameProver();
        x.bit(true, false);
        x.bit(false, false);
        for (int i = 0; i < 4; i++) {
            x.input();
        }
        x.next(0, 4);
        x.assume(11);
        x.bad(2);
        x.prove(1);
        return x;
    }

    // ---- 11 start

    static void p11_start_isTheBeginning() {
        due("start", choosing().start(), 1);
        due("nothing told", new FrameProver().start(), 0);
    }

    static void p11_start_bringsTheRunBack() {
        FrameProver x = Machines.twoBits();
        x.step(0);
        x.step(0);
        due("start", x.start(), 0);
        due("value", x.value(0, 0), 0);
        due("step", x.step(0), 1);
    }

    static void p11_start_isNotNeeded() {
        due("step", Machines.twoBits().step(0), 1);
    }

    // ---- 12 step

    static void p12_step_answersTheState_andTheRunIsThere() {
        FrameProver x = Machines.twoBits();
        due("step", x.step(0), 1);
        due("value", x.value(0, 0), 1);
        due("step", x.step(1), 3);
        due("value", x.value(2, 0), 1);
    }

    static void p12_step_theLastChoicesAreTaken() {
        FrameProver x = choosing();
        due("7", x.step(7), 1);
        due("0", x.step(0), 0);
    }

    static void p12_step_choices15AreTaken() {
        FrameProver x = new FrameProver();
        x.bit(false, false);
        for (int i = 0; i < 4; i++) {
            x.input();
        }
        x.next(0, 8);
        due("15", x.step(15), 1);
        due("16", x.step(16), BEYOND);
    }

    static void p12_step_beyond_behindTheLastChoices() {
        refused(BEYOND, RunEdges::choosing, x -> x.step(16));
        refused(BEYOND, Machines::busy, x -> x.step(2));
    }

    static void p12_step_beyond_withoutInputs1() {
        refused(BEYOND, FrameProver::new, x -> x.step(1));
    }

    static void p12_step_beyond_below0() {
        refused(BEYOND, Machines::busy, x -> x.step(-1));
        refused(BEYOND, Machines::busy, x -> x.step(LOW));
    }

    static void p12_step_beyond_farAway() {
        refused(BEYOND, Machines::busy, x -> x.step(TOP));
    }

    static void p12_step_no_theyAreNotRight() {
        refused(NO, RunEdges::choosing, x -> x.step(8));
    }

    static void p12_step_no_theRunStaysWhereItWas() {
        FrameProver x = choosing();
        x.step(0);
        due("not right", x.step(9), NO);
        due("bit 0", x.value(0, 0), 0);
        due("right", x.step(1), 1);
    }

    static void p12_step_no_rightInOneState_notInAnother() {
        FrameProver x = new FrameProver();
        x.bit(false, false);
        x.next(0, 1);
        x.assume(1);
        due("right at 0", x.step(0), 1);
        due("not at 1", x.step(0), NO);
        due("not at 1", x.step(0), NO);
        x.start();
        due("right at 0", x.step(0), 1);
    }

    static void p12_step_beyondComesBeforeNo() {
        refused(BEYOND, () -> {
            FrameProver x = Machines.twoBits();
            x.assume(0);
            return x;
        }, x -> x.step(2));
    }

    // ---- 13 value

    static void p13_value_inTheStateOfTheRun() {
        FrameProver x = Machines.twoBits();
        due("gate 3 at 0", x.value(6, 0), 0);
        x.step(0);
        x.step(0);
        due("gate 3 at 3", x.value(6, 0), 1);
    }

    static void p13_value_withChoicesThatAreNotRight() {
        FrameProver x = choosing();
        due("input 3", x.value(10, 8), 1);
    }

    static void p13_value_leavesTheRunWhereItIs() {
        unchanged(Machines::busy, x -> x.value(9, 1));
    }

    static void p13_value_theLastSignWithTheLastChoices() {
        FrameProver x = Machines.twoBits();
        due("sign 9", x.value(9, 1), 0);
        FrameProver y = Machines.filled(choosing());
        due("sign 159", y.value(159, 15), 0);
    }

    static void p13_value_beyond_theSignBehindTheLast() {
        refused(BEYOND, Machines::busy, x -> x.value(10, 0));
    }

    static void p13_value_beyond_sign160OfAFullMachine() {
        refused(BEYOND, () -> Machines.filled(Machines.busy()), x -> x.value(160, 0));
    }

    static void p13_value_beyond_signBelow0() {
        refused(BEYOND, Machines::busy, x -> x.value(-1, 0));
        refused(BEYOND, Machines::busy, x -> x.value(LOW, 0));
    }

    static void p13_value_beyond_choicesBehindTheLast() {
        refused(BEYOND, Machines::busy, x -> x.value(0, 2));
        refused(BEYOND, RunEdges::choosing, x -> x.value(0, 16));
    }

    static void p13_value_beyond_choicesBelow0() {
        refused(BEYOND, Machines::busy, x -> x.value(0, -1));
    }

    static void p13_value_beyond_farAway() {
        refused(BEYOND, Machines::busy, x -> x.value(TOP, 0));
        refused(BEYOND, Machines::busy, x -> x.value(0, TOP));
    }

    static void p13_value_beyond_noParts() {
        refused(BEYOND, FrameProver::new, x -> x.value(0, 0));
    }

    // ---- 14 at

    static void p14_at_anyState_thoughItNeverComes() {
        FrameProver x = choosing();
        due("goes", x.at(3, 0, 0), 2);
        due("right", x.at(3, 0, 1), 1);
        due("bad", x.at(3, 0, 2), 1);
    }

    static void p14_at_noneIfTheyAreNotRight() {
        FrameProver x = choosing();
        due("goes", x.at(3, 8, 0), NONE);
        due("right", x.at(3, 8, 1), 0);
        due("right and bad", x.at(3, 8, 2), 0);
        due("NONE is not refused", x.status(NO), 0);
    }

    static void p14_at_rightButNotBad() {
        due("bad", choosing().at(1, 0, 2), 0);
    }

    static void p14_at_leavesTheRunWhereItIs() {
        unchanged(Machines::busy, x -> x.at(2, 1, 0));
    }

    static void p14_at_theLastStateWithTheLastChoices() {
        due("3 with 7", choosing().at(3, 7, 0), 3);
        due("3 with 15", choosing().at(3, 15, 0), NONE);
        due("255", Machines.counter(8, 0).at(255, 0, 0), 0);
    }

    static void p14_at_beyond_theStateBehindTheLast() {
        refused(BEYOND, Machines::busy, x -> x.at(4, 0, 0));
        refused(BEYOND, () -> Machines.counter(8, 0), x -> x.at(256, 0, 0));
    }

    static void p14_at_beyond_stateBelow0() {
        refused(BEYOND, Machines::busy, x -> x.at(-1, 0, 0));
        refused(BEYOND, Machines::busy, x -> x.at(LOW, 0, 0));
    }

    static void p14_at_beyond_choicesBehindTheLast() {
        refused(BEYOND, Machines::busy, x -> x.at(0, 2, 0));
        refused(BEYOND, RunEdges::choosing, x -> x.at(0, 16, 1));
    }

    static void p14_at_beyond_choicesBelow0() {
        refused(BEYOND, Machines::busy, x -> x.at(0, -1, 0));
    }

    static void p14_at_beyond_farAway() {
        refused(BEYOND, Machines::busy, x -> x.at(TOP, 0, 0));
        refused(BEYOND, Machines::busy, x -> x.at(0, TOP, 0));
    }

    static void p14_at_no_whatIs3() {
        refused(NO, Machines::busy, x -> x.at(0, 0, 3));
    }

    static void p14_at_no_whatBelow0() {
        refused(NO, Machines::busy, x -> x.at(0, 0, -1));
    }

    static void p14_at_no_evenWhereTheyAreNotRight() {
        refused(NO, RunEdges::choosing, x -> x.at(0, 8, 3));
    }

    static void p14_at_beyondComesBeforeNo() {
        refused(BEYOND, Machines::busy, x -> x.at(4, 0, 3));
        refused(BEYOND, Machines::busy, x -> x.at(0, 2, 3));
    }
}
