/** The sentences of the terms, 1 to 4. */
final class TermEdges extends Edges {

    // ---- 1 PARTS, STATES, what changes the MACHINE

    static void t1_parts_areNumberedFrom0AsTheyComeOfWhateverKind() {
        FrameProver x = new FrameProver();
        due("input", x.input(), 0);
        due("bit", x.bit(false, false), 1);
        due("gate", x.gate(0, 2), 2);
        due("held bit", x.bit(false, true), 3);
        due("gate", x.gate(0, 2), 4);
    }

    static void t1_parts_theLastOneIs79() {
        FrameProver x = new FrameProver();
        x.input();
        for (int part = 1; part <= 79; part++) {
            due("gate", x.gate(0, 0), part);
        }
        due("the next", x.gate(0, 0), FULL);
    }

    static void t1_sign_isTwoTimesThePart_oneMoreForItsDenial() {
        FrameProver x = new FrameProver();
        x.bit(true, false);
        x.bit(false, true);
        x.input();
        x.gate(0, 3);
        int[] due = {1, 0, 0, 1, 0, 1, 1, 0};
        for (int sign = 0; sign < 8; sign++) {
            due("value(" + sign + ")", x.value(sign, 0), due[sign]);
        }
    }

    static void t1_gate_isOneIfBothSignsAreOne_andOnlyThen() {
        FrameProver x = new FrameProver();
        x.input();
        x.input();
        int gate = x.gate(0, 2);
        int[] due = {0, 0, 0, 1};
        for (int choices = 0; choices < 4; choices++) {
            due("value with " + choices, x.value(2 * gate, choices), due[choices]);
        }
    }

    static void t1_gate_ofDenials() {
        FrameProver x = new FrameProver();
        x.input();
        x.input();
        int neither = x.gate(1, 3);
        int second = x.gate(1, 2);
        int[] dueNeither = {1, 0, 0, 0};
        int[] dueSecond = {0, 0, 1, 0};
        for (int choices = 0; choices < 4; choices++) {
            due("neither with " + choices, x.value(2 * neither, choices), dueNeither[choices]);
            due("the second alone with " + choices, x.value(2 * second, choices), dueSecond[choices]);
        }
    }

    static void t1_gate_ofASignTwiceIsThatSign_withItsDenialItIs0() {
        FrameProver x = new FrameProver();
        x.input();
        int same = x.gate(0, 0);
        int none = x.gate(0, 1);
        for (int choices = 0; choices < 2; choices++) {
            due("twice", x.value(2 * same, choices), choices);
            due("with its denial", x.value(2 * none, choices), 0);
        }
    }

    static void t1_gate_ofGatesInAChainOf79() {
        FrameProver x = new FrameProver();
        x.input();
        for (int part = 1; part <= 79; part++) {
            x.gate(2 * part - 1, 2 * part - 1);
        }
        due("79 denials of 0", x.value(158, 0), 1);
        due("79 denials of 1", x.value(158, 1), 0);
    }

    static void t1_bit_hasItsValueAtFirst() {
        FrameProver x = new FrameProver();
        x.bit(false, false);
        x.bit(true, false);
        due("false", x.value(0, 0), 0);
        due("true", x.value(2, 0), 1);
    }

    static void t1_bit_keepsItsValueAtFirst_forNextIsItsOwn() {
        FrameProver x = new FrameProver();
        x.bit(false, false);
        x.bit(true, false);
        for (int state = 0; state < 4; state++) {
            due("from " + state, x.at(state, 0, 0), state);
        }
    }

    static void t1_held_keepsItsValueInEachStateByAllChoices() {
        FrameProver x = new FrameProver();
        x.bit(false, true);
        x.input();
        x.bit(false, false);
        x.next(2, 2);
        for (int state = 0; state < 4; state++) {
            for (int choices = 0; choices < 2; choices++) {
                due("from " + state, x.at(state, choices, 0) & 1, state & 1);
            }
        }
    }

    static void t1_next_mayBeASignOfALaterPart() {
        FrameProver x = new FrameProver();
        x.bit(false, false);
        x.input();
        x.gate(1, 2);
        due("a gate", x.next(0, 4), 0);
        due("0 by 1", x.at(0, 1, 0), 1);
        due("0 by 0", x.at(0, 0, 0), 0);
        due("1 by 1", x.at(1, 1, 0), 0);
    }

    static void t1_next_allOfAStepTakeTheValuesBefore() {
        FrameProver x = new FrameProver();
        x.bit(true, false);
        x.bit(false, false);
        x.next(0, 2);
        x.next(1, 0);
        due("they change places", x.step(0), 2);
        due("and back", x.step(0), 1);
    }

    static void t1_bad_isNoneAtFirst() {
        FrameProver x = new FrameProver();
        x.bit(true, false);
        due("at", x.at(1, 0, 2), 0);
        due("shortest", x.shortest(), NONE);
        due("the one before", x.bad(0), NONE);
    }

    static void t1_state_bitIIsTheIthBitByParts_whateverStandsBetween() {
        FrameProver x = new FrameProver();
        x.input();
        x.bit(false, false);
        x.gate(0, 2);
        x.bit(true, true);
        x.input();
        x.bit(true, false);
        due("start", x.start(), 6);
        x.lay(3, 0);
        due("bit 0 is part 1", x.row(1), 1);
        due("bit 1 is part 3, a held one", x.row(3), 1);
        due("bit 2 is part 5", x.row(5), 0);
    }

    static void t1_choices_bitIIsTheIthInputByParts() {
        FrameProver x = new FrameProver();
        x.input();
        x.bit(false, false);
        x.input();
        x.gate(0, 0);
        x.input();
        x.input();
        x.lay(0, 6);
        int[] due = {0, 0, 1, 0, 1, 0};
        for (int part = 0; part < 6; part++) {
            due("part " + part, x.row(part), due[part]);
        }
        x.lay(0, 9);
        int[] due2 = {1, 0, 0, 1, 0, 1};
        for (int part = 0; part < 6; part++) {
            due("part " + part, x.row(part), due2[part]);
        }
    }

    static void t1_beginning_withoutBitsIs0() {
        FrameProver x = new FrameProver();
        x.input();
        due("start", x.start(), 0);
    }

    static void t1_beginning_ofEightBitsThatAre1Is255() {
        FrameProver x = new FrameProver();
        for (int i = 0; i < 8; i++) {
            x.bit(true, i % 2 == 0);
        }
        due("start", x.start(), 255);
        due("step", x.step(0), 255);
    }

    static void t1_right_withoutAssumptionsAllIs() {
        FrameProver x = Machines.twoBits();
        for (int i = 0; i < 8; i++) {
            due("at", x.at(i / 2, i % 2, 1), 1);
        }
    }

    static void t1_right_ifAllFourAssumptionsAre1_eachOneMatters() {
        for (int missing = 0; missing < 4; missing++) {
            FrameProver x = new FrameProver();
            for (int i = 0; i < 4; i++) {
                x.input();
            }
            for (int i = 0; i < 4; i++) {
                x.assume(2 * i);
            }
            due("all", x.at(0, 15, 1), 1);
            due("all but one", x.at(0, 15 - (1 << missing), 1), 0);
        }
    }

    static void t1_step_leadsNowhereByChoicesThatAreNotRight() {
        FrameProver x = new FrameProver();
        x.bit(false, false);
        x.input();
        x.next(0, 2);
        due("free", x.within(1), 2);
        x.assume(3);
        due("with the assumption", x.within(1), 1);
        due("ask", x.ask(0, 1, 1), NONE);
    }

    static void t1_badState_ifWithSomeChoicesItIsRightAndBadIs1() {
        FrameProver x = new FrameProver();
        x.bit(true, false);
        for (int i = 0; i < 4; i++) {
            x.input();
        }
        int all = x.gate(2 * x.gate(2, 4), 2 * x.gate(6, 8));
        x.bad(2 * all);
        due("with the last choices alone", x.shortest(), 0);
        due("judge", x.judge(), 3);
        due("prove", x.prove(1), 2);
        due("the choices", x.wayChoice(0), 15);
    }

    static void t1_badState_notIfBadIs1WithWrongChoicesAlone() {
        FrameProver x = new FrameProver();
        x.bit(true, false);
        x.input();
        x.bad(2);
        x.assume(3);
        due("shortest", x.shortest(), NONE);
        due("judge", x.judge(), 0);
        due("prove", x.prove(1), 1);
    }

    static void t1_badState_notIfItIsRightAndBadIs1WithDifferentChoices() {
        FrameProver x = new FrameProver();
        x.bit(true, false);
        x.input();
        x.gate(0, 2);
        x.bad(4);
        x.assume(3);
        due("right by 0", x.at(1, 0, 1), 1);
        due("shortest", x.shortest(), NONE);
    }

    static void t1_badState_withoutABadNoneIs() {
        FrameProver x = Machines.twoBits();
        x.bad(NONE);
        for (int i = 0; i < 8; i++) {
            due("at", x.at(i / 2, i % 2, 2), 0);
        }
        due("prove", x.prove(1), 1);
        due("judge", x.judge(), 0);
    }

    /** All that a change takes away, and that the row and the latest judge() are none of it. */
    private static void takesAllAway(Edges.Recipe recipe, Edges.Call change) {
        FrameProver x = recipe.make();
        int failed = x.fails(0);
        int failedTo = x.fails(1);
        due("the change is done", change.on(x) >= NONE ? 1 : 0, 1);
        due("frames()", x.frames(), 0);
        due("looks", x.count(6), 0);
        for (int k = 1; k <= 24; k++) {
            due("clauses(" + k + ")", x.clauses(k), 0);
        }
        due("trouble", x.trouble(0, 0), NONE);
        due("way()", x.way(), MISSING);
        due("take()", x.take(), MISSING);
        due("the list", x.count(7), 0);
        due("listed(0)", x.listed(0, false), BEYOND);
        due("keeps(1)", x.keeps(1), 1);
        due("the run is at the beginning: bit 0", x.value(0, 0), 0);
        due("the run is at the beginning: bit 1", x.value(2, 0), 0);
        due("the row is there", x.row(0), 1);
        due("fails(0)", x.fails(0), failed);
        due("fails(1)", x.fails(1), failedTo);
    }

    private static void takesAllAwayFromEach(Edges.Call change) {
        takesAllAway(Machines::busy, change);
        takesAllAway(Machines::ended, change);
        takesAllAway(Machines::walled, change);
    }

    static void t1_change_aBitThatComes() {
        takesAllAwayFromEach(x -> x.bit(true, false));
    }

    static void t1_change_aHeldBitThatComes() {
        takesAllAwayFromEach(x -> x.bit(true, true));
    }

    static void t1_change_anInputThatComes() {
        takesAllAwayFromEach(x -> x.input());
    }

    static void t1_change_aGateThatComes() {
        takesAllAwayFromEach(x -> x.gate(0, 0));
    }

    static void t1_change_next() {
        takesAllAwayFromEach(x -> x.next(0, 1));
    }

    static void t1_change_nextThatStoodAlready() {
        takesAllAwayFromEach(x -> x.next(0, x.part(0, 1)));
    }

    static void t1_change_bad() {
        takesAllAwayFromEach(x -> x.bad(0));
    }

    static void t1_change_badThatStoodAlready() {
        takesAllAway(Machines::busy, x -> x.bad(6));
    }

    static void t1_change_badToNone() {
        takesAllAwayFromEach(x -> x.bad(NONE));
    }

    static void t1_change_assume() {
        takesAllAwayFromEach(x -> x.assume(0));
    }

    static void t1_change_fair() {
        takesAllAwayFromEach(x -> x.fair(0));
    }

    static void t1_change_whatComesThenIsOfTheNewMachine() {
        FrameProver x = Machines.twoBits();
        due("prove", x.prove(5000), 2);
        due("live", x.live(), 0);
        x.next(1, 2);
        due("shortest", x.shortest(), NONE);
        due("prove", x.prove(5000), 1);
        due("within", x.within(9), 2);
        x.bad(2);
        due("judge", x.judge(), 3);
        due("ask", x.ask(1, 3, 2), 3);
        x.next(0, 0);
        due("ask", x.ask(1, 3, 2), NONE);
    }

    static void t1_noChange_theOtherCallsLeaveProofAndList() {
        Edges.Call others = x -> {
            x.at(3, 1, 0);
            x.value(0, 1);
            x.part(0, 0);
            x.count(0);
            x.frames();
            x.clauses(1);
            x.clause(1, 0, true);
            x.trouble(0, 0);
            x.ask(2, 3, 2);
            x.ask(0, 1, 1);
            x.widen(1, 3, 3);
            x.shortest();
            x.within(3);
            x.keeps(2);
            x.cone();
            x.live();
            x.fails(0);
            x.listed(0, true);
            x.row(0);
            x.copy(0, 0, 2);
            return 0;
        };
        unchanged(Machines::busy, others);
        unchanged(Machines::ended, others);
        unchanged(Machines::walled, others);
    }

    static void t1_noChange_aRunThatGoesOnLeavesProofAndList() {
        FrameProver x = Machines.busy();
        x.step(0);
        x.start();
        x.step(1);
        due("frames()", x.frames(), 2);
        due("clauses(1)", x.clauses(1), 1);
        due("trouble(2, 0)", x.trouble(2, 0), 0);
        due("count(7)", x.count(7), 2);
    }

    static void t1_noChange_theListAndItsJudgeLeaveTheProof() {
        FrameProver x = Machines.busy();
        x.list(3, 3);
        x.forge(0, 0, true);
        x.judge();
        x.small();
        x.clear();
        x.tear();
        x.lay(2, 1);
        due("frames()", x.frames(), 2);
        due("clauses(1)", x.clauses(1), 1);
        due("trouble(2, 0)", x.trouble(2, 0), 0);
        due("prove", x.prove(1), 2);
    }

    static void t1_noChange_provingLeavesListAndRun() {
        FrameProver x = Machines.busy();
        x.prove(5000);
        due("count(7)", x.count(7), 2);
        due("the run is where it was", x.step(0), 3);
    }

    // ---- 2 CUBES, FRAMES, TO PROVE, WIDENED, PUSHED

    static void t2_cube_ofNoMaskIsAllStates() {
        FrameProver x = Machines.twoBits();
        x.list(0, 0);
        due("the beginning is kept out", x.judge(), 1);
        due("no state is not in it", x.ask(1, 0, 0), NONE);
    }

    static void t2_cube_ofAllBitsIsOneState() {
        FrameProver x = new FrameProver();
        x.bit(false, false);
        x.bit(false, false);
        x.bad(2);
        x.list(3, 2);
        due("3 is left in", x.judge(), 3);
        due("3", x.fails(0), 3);
        x.list(3, 3);
        due("none is left in", x.judge(), 0);
    }

    static void t2_cube_ofAMachineWithoutBitsHasMask0Alone() {
        FrameProver x = new FrameProver();
        due("mask 0", x.list(0, 0), 1);
        due("mask 1", x.list(1, 0), NO);
        due("mask 1", x.ask(0, 1, 1), NO);
    }

    static void t2_cube_ofAMachineWithEightBitsHasMasksTo255() {
        FrameProver x = Machines.counter(8, 255);
        due("255", x.list(255, 255), 1);
        due("256", x.list(256, 0), NO);
        due("256", x.list(256, 256), NO);
    }

    static void t2_frame0_holdsTheBeginningAlone() {
        FrameProver x = Machines.twoBits();
        due("0 leads to 1", x.ask(0, 3, 1), 0);
        due("1 leads to 3", x.ask(0, 3, 3), NONE);
        due("2 leads to 0", x.ask(0, 3, 0), NONE);
    }

    static void t2_frame0_movesWithTheBeginning() {
        FrameProver x = new FrameProver();
        x.bit(true, false);
        x.bit(false, false);
        x.next(1, 0);
        due("1 leads to 3", x.ask(0, 2, 2), 1);
    }

    static void t2_frames_1And24HoldAllStatesWithoutClauses() {
        FrameProver x = Machines.twoBits();
        due("frame 1", x.ask(1, 3, 2), 3);
        due("frame 24", x.ask(24, 3, 2), 3);
        due("frame 1", x.ask(1, 3, 0), 2);
        due("frame 24", x.ask(24, 3, 0), 2);
    }

    static void t2_frames_holdNotWhatAClauseKeepsOut() {
        FrameProver x = Machines.twoBits();
        x.prove(1);
        due("2 and 3 are not in frame 1", x.ask(1, 3, 2), NONE);
        due("they are in frame 2", x.ask(2, 3, 2), 3);
    }

    static void t2_prove_theBeginningIsBad_aWayOfNoSteps() {
        FrameProver x = Machines.counter(3, 0);
        due("prove", x.prove(1), 2);
        due("way", x.way(), 0);
        due("state", x.wayState(0), 0);
        due("looks", x.count(6), 0);
        due("trouble", x.trouble(0, 0), NONE);
        due("N", x.frames(), 1);
        due("clauses", x.clauses(1), 0);
    }

    static void t2_prove_nIs1AtFirst() {
        FrameProver x = new FrameProver();
        x.bit(false, false);
        x.input();
        x.next(0, 2);
        x.bad(0);
        due("prove", x.prove(1), 0);
        due("N", x.frames(), 1);
        due("trouble of frame 1", x.trouble(0, 1), 1);
    }

    static void t2_prove_theLeastBadStateOfFrameN_withN() {
        FrameProver x = Machines.graph(2, 1, 0, new int[][] {{0, 1}, {3, 2}, {0, 0}, {0, 0}}, 3, 2);
        due("prove", x.prove(1), 0);
        due("N", x.frames(), 2);
        due("2 is less than 3", x.trouble(0, 0), 2);
        due("of frame 2", x.trouble(0, 1), 2);
    }

    static void t2_look_atTheBeginning_aWayFromItToTheFirstTrouble() {
        FrameProver x = Machines.counter(2, 3);
        due("prove", x.prove(6), 2);
        due("looks", x.count(6), 6);
        due("way", x.way(), 3);
        for (int i = 0; i <= 3; i++) {
            due("state", x.wayState(i), i);
            due("the troubles backwards", x.trouble(i, 0), 3 - i);
        }
    }

    static void t2_look_theForerunnerIsTheLeastOfFrameKLess1_andTheLastTrouble() {
        // 1 and 2 lead to 3, which is bad; 0 leads to 1 and 2.
        FrameProver x = Machines.graph(2, 1, 0, new int[][] {{1, 2}, {3, 3}, {3, 3}, {3, 3}}, 3);
        due("prove", x.prove(2), 0);
        due("the first", x.trouble(0, 0), 3);
        due("of frame", x.trouble(0, 1), 2);
        due("1 is less than 2", x.trouble(1, 0), 1);
        due("of frame", x.trouble(1, 1), 1);
        due("no more", x.trouble(2, 0), NONE);
    }

    static void t2_look_theForerunnerIsNoStateThatTheFrameKeepsOut() {
        // 3 is bad; 1 leads there, and 0 to 2 and 2 to 3: but 1 never comes.
        FrameProver x = Machines.graph(2, 1, 0, new int[][] {{2, 2}, {3, 3}, {3, 3}, {3, 3}}, 3);
        due("prove", x.prove(5000), 2);
        due("way", x.way(), 2);
        due("over 2", x.wayState(1), 2);
        due("1 and 3 are kept out of frame 1", x.clause(1, 0, false), 1);
        due("1 and 3 are kept out of frame 1", x.clause(1, 0, true), 1);
    }

    static void t2_look_theClauseComesToAllFrames1ToK() {
        FrameProver x = Machines.counter(2, 3);
        due("learned at 1, then at 2", x.prove(2), 0);
        due("N", x.frames(), 3);
        due("frame 1", x.clauses(1), 2);
        due("2, 2", x.clause(1, 0, false) * 4 + x.clause(1, 0, true), 10);
        due("3, 3", x.clause(1, 1, false) * 4 + x.clause(1, 1, true), 15);
        due("frame 2", x.clauses(2), 1);
        due("3, 3", x.clause(2, 0, false) * 4 + x.clause(2, 0, true), 15);
        due("frame 3", x.clauses(3), 0);
    }

    static void t2_look_theClauseComesTwiceToAFrameThatHasItsCube() {
        FrameProver x = Machines.twice();
        due("prove", x.prove(5000), 1);
        due("frame 1", x.clauses(1), 3);
        int[] frame1 = {10, 4, 10};
        for (int i = 0; i < 3; i++) {
            due("clause " + i, x.clause(1, i, false) * 4 + x.clause(1, i, true), frame1[i]);
        }
        due("frame 2", x.clauses(2), 2);
        due("frame 3", x.clauses(3), 2);
        due("the wall with both", x.take(), 3);
    }

    static void t2_look_theTroubleGoesWhenItsClauseIsLearned() {
        FrameProver x = Machines.twice();
        due("prove", x.prove(2), 0);
        due("the next bad one in its place", x.trouble(0, 0), 3);
        due("no more", x.trouble(1, 0), NONE);
    }

    static void t2_widened_fromBit0On() {
        FrameProver x = new FrameProver();
        x.bit(false, false);
        x.bit(false, false);
        x.bit(false, false);
        due("bits 0 and 1 go, bit 2 must stay", x.widen(1, 7, 7), 4);
    }

    static void t2_widened_notIntoTheBeginning() {
        FrameProver x = new FrameProver();
        x.bit(true, false);
        x.bit(false, false);
        due("2 differs in both: bit 0 goes", x.widen(1, 3, 2), 2);
        due("0 differs in bit 0", x.widen(1, 3, 0), 1);
        due("3 differs in bit 1", x.widen(1, 3, 3), 2);
    }

    static void t2_widened_aStepFromInsideTheWiderCubeDoesNotCount() {
        // 2 leads to 3, both in the cube 2, 2.
        FrameProver x = Machines.graph(2, 1, 0, new int[][] {{0, 0}, {0, 0}, {3, 3}, {3, 3}}, 3);
        due("2 leads into 3", x.ask(1, 3, 3), 2);
        due("nothing leads into both", x.ask(1, 2, 2), NONE);
        due("not narrow enough", x.widen(2, 3, 3), NO);
        due("2 becomes both", x.widen(2, 3, 2), 2);
    }

    static void t2_widened_notWhereAStepComesFromOutside() {
        // 1 leads to 2.
        FrameProver x = Machines.graph(2, 1, 0, new int[][] {{0, 0}, {2, 2}, {0, 0}, {3, 3}}, 3);
        due("3 and 2 would be entered from 1, 3 and 1 not", x.widen(2, 3, 3), 1);
    }

    static void t2_widened_stepsFromStatesOutsideOfFrameKLess1DoNotCount() {
        FrameProver x = Machines.graph(2, 1, 0, new int[][] {{0, 0}, {2, 2}, {0, 0}, {3, 3}}, 3);
        due("at 1: from the beginning alone", x.widen(1, 3, 3), 2);
    }

    static void t2_pushed_inTheOrderOfTheFrame() {
        FrameProver x = Machines.pushedBoth();
        due("prove", x.prove(5000), 1);
        due("frame 2", x.clauses(2), 2);
        due("1, 1", x.clause(2, 0, false) * 4 + x.clause(2, 0, true), 5);
        due("2, 2", x.clause(2, 1, false) * 4 + x.clause(2, 1, true), 10);
    }

    static void t2_pushed_asTheLastOne_overSeveralFramesAtOnce() {
        FrameProver x = Machines.pushedFar();
        due("prove", x.prove(5000), 1);
        for (int k = 2; k <= 3; k++) {
            due("frame", x.clauses(k), 2);
            due("1, 1", x.clause(k, 0, false) * 4 + x.clause(k, 0, true), 5);
            due("2, 2", x.clause(k, 1, false) * 4 + x.clause(k, 1, true), 10);
        }
        due("N is 2: no further", x.clauses(4), 0);
    }

    static void t2_pushed_notWhereAStepLeadsIntoTheCube() {
        FrameProver x = Machines.twoBits();
        x.prove(1);
        due("N", x.frames(), 2);
        due("1 leads into 2, 2", x.clauses(2), 0);
    }

    static void t2_pushed_notASecondTime() {
        FrameProver x = Machines.laterWall();
        due("prove", x.prove(5000), 1);
        due("frame 1", x.clauses(1), 2);
        due("frame 2 had 3, 3 already", x.clauses(2), 1);
    }

    static void t2_pushed_clausesAlone_whereNoStepIsRight() {
        FrameProver x = Machines.graph(1, 1, 0, new int[][] {{-1, -1}, {-1, -1}}, 1);
        due("prove", x.prove(1), 1);
        due("frame 1", x.clauses(1), 0);
        due("frame 2", x.clauses(2), 0);
        due("take", x.take(), 0);
    }

    static void t2_wall_isThatOfTheLeastFrame_inItsOrder() {
        FrameProver x = Machines.pushedFar();
        x.prove(5000);
        due("take", x.take(), 2);
        due("2, 2", x.listed(0, false) * 4 + x.listed(0, true), 10);
        due("1, 1", x.listed(1, false) * 4 + x.listed(1, true), 5);
    }

    static void t2_wall_ofALaterFrame() {
        FrameProver x = Machines.laterWall();
        x.prove(5000);
        due("N", x.frames(), 2);
        due("take", x.take(), 1);
        due("3, 3", x.listed(0, false) * 4 + x.listed(0, true), 15);
    }

    static void t2_wall_ofNoClauses() {
        FrameProver x = Machines.twoBits();
        x.bad(x.gate(0, 1) * 2);
        due("prove", x.prove(1), 1);
        due("N", x.frames(), 1);
        due("take", x.take(), 0);
    }

    static void t2_noWall_nIsOneMore() {
        FrameProver x = Machines.twoBits();
        x.prove(1);
        due("N", x.frames(), 2);
        x.prove(1);
        due("N", x.frames(), 2);
    }

    static void t2_spent_aheadOfTheLookThatWouldBeOneMore() {
        FrameProver x = Machines.twoBits();
        due("3 of 4", x.prove(3), 0);
        due("looks", x.count(6), 3);
        due("the trouble stands ahead", x.trouble(2, 0), 0);
        due("no way yet", x.way(), MISSING);
    }

    static void t2_spent_notIfJustAsManyLooksAreNeeded() {
        due("a way of 4 looks", Machines.twoBits().prove(4), 2);
        due("a wall of 3 looks", Machines.twice().prove(3), 1);
        due("a wall of 2 looks", Machines.laterWall().prove(2), 1);
    }

    static void t2_spent_whatNeedsNoLookIsDoneBefore() {
        FrameProver x = Machines.twice();
        due("prove", x.prove(1), 0);
        due("it is pushed", x.frames(), 2);
        due("the next trouble is there", x.trouble(0, 0), 2);
        due("of frame", x.trouble(0, 1), 2);
    }

    private static final Edges.Recipe[] PROVABLE = {Machines::twoBits, Machines::twice, Machines::pushedFar,
        Machines::laterWall, Machines::pushedBoth, () -> Machines.counter(3, 6)};

    private static void framesAlike(FrameProver x, FrameProver other) {
        due("N", x.frames(), other.frames());
        due("looks", x.count(6), other.count(6));
        for (int k = 1; k <= 5; k++) {
            due("clauses", x.clauses(k), other.clauses(k));
            for (int i = 0; i < other.clauses(k); i++) {
                due("mask", x.clause(k, i, false), other.clause(k, i, false));
                due("values", x.clause(k, i, true), other.clause(k, i, true));
            }
        }
    }

    static void t2_spent_itGoesOnFromThere_asAtOnce() {
        for (Edges.Recipe recipe : PROVABLE) {
            FrameProver once = recipe.make();
            FrameProver slow = recipe.make();
            int end = once.prove(5000);
            int told = 0;
            for (int i = 0; i < 60 && told == 0; i++) {
                told = slow.prove(1);
            }
            due("end", told, end);
            framesAlike(slow, once);
        }
    }

    static void t2_prove_aSecondProofHasNothingOfTheFirst() {
        for (Edges.Recipe recipe : PROVABLE) {
            FrameProver once = recipe.make();
            FrameProver again = recipe.make();
            int end = once.prove(5000);
            again.prove(5000);
            again.fair(0);
            due("end", again.prove(5000), end);
            framesAlike(again, once);
        }
    }

    static void t2_full_whereNWouldBe24_itStays23() {
        FrameProver x = Machines.register(24);
        due("prove", x.prove(5000), 3);
        due("N", x.frames(), 23);
        due("no trouble", x.trouble(0, 0), NONE);
    }

    static void t2_notFull_aWayOf23StepsIsFoundWithN23() {
        FrameProver x = Machines.register(23);
        due("prove", x.prove(5000), 2);
        due("N", x.frames(), 23);
        due("way", x.way(), 23);
    }

    static void t2_full_the201stClauseOfAFrame_the200thIsTaken() {
        FrameProver x = Machines.frameOf201();
        due("before", x.prove(200), 0);
        due("200", x.clauses(1), 200);
        due("the next look", x.prove(1), 3);
        due("200", x.clauses(1), 200);
        due("looks", x.count(6), 201);
    }

    static void t2_full_thatClauseComesToNoFrame() {
        FrameProver x = Machines.frameOf201();
        x.prove(200);
        int second = x.clauses(2);
        int third = x.clauses(3);
        due("its trouble is of frame 3", x.trouble(0, 1), 3);
        due("prove", x.prove(1), 3);
        due("frame 2", x.clauses(2), second);
        due("frame 3", x.clauses(3), third);
    }

    // ---- 3 THE LIST, CONE, FOR EVER

    static void t3_list_theBeginningIsLookedAtFirst() {
        FrameProver x = Machines.twoBits();
        x.list(3, 0);
        due("3 is left in, 2 leads out, but the beginning is kept out", x.judge(), 1);
        due("state", x.fails(0), 0);
        due("leads to", x.fails(1), NONE);
    }

    static void t3_list_aBadOneLeftInIsLookedAtSecond() {
        FrameProver x = Machines.twoBits();
        x.list(3, 1);
        due("0 leads to 1, but 3 is left in", x.judge(), 3);
        due("state", x.fails(0), 3);
        due("leads to", x.fails(1), NONE);
    }

    static void t3_list_aStepThatLeadsOutIsLookedAtLast() {
        FrameProver x = Machines.twoBits();
        x.list(3, 3);
        due("judge", x.judge(), 2);
        due("state", x.fails(0), 1);
        due("leads to", x.fails(1), 3);
    }

    static void t3_list_theLeastBadState() {
        FrameProver x = Machines.graph(2, 1, 0, new int[][] {{0, 0}, {0, 0}, {0, 0}, {0, 0}}, 3, 1, 2);
        due("judge", x.judge(), 3);
        due("of 1, 2, 3", x.fails(0), 1);
        x.list(3, 1);
        due("judge", x.judge(), 3);
        due("of 2, 3", x.fails(0), 2);
    }

    static void t3_list_theLeastStateThatLeadsOut_andTheLeastToWhich() {
        FrameProver x = Machines.graph(2, 1, 0, new int[][] {{0, 1}, {3, 2}, {0, 0}, {0, 0}});
        x.list(2, 2);
        due("judge", x.judge(), 2);
        due("from", x.fails(0), 1);
        due("2 is less than 3, though it comes by greater choices", x.fails(1), 2);
    }

    static void t3_list_aStepFromAStateThatIsKeptOutDoesNotMatter() {
        FrameProver x = Machines.graph(2, 1, 0, new int[][] {{0, 0}, {2, 2}, {3, 3}, {3, 3}}, 3);
        x.list(2, 2);
        x.list(3, 1);
        due("judge", x.judge(), 0);
    }

    static void t3_list_aStepToTheStateItselfLeadsNotOut() {
        FrameProver x = Machines.graph(2, 1, 0, new int[][] {{0, 0}, {1, 1}, {3, 3}, {3, 3}}, 3);
        x.list(2, 2);
        due("judge", x.judge(), 0);
    }

    static void t3_cone_byGatesAndNexts_notByInputs() {
        FrameProver x = new FrameProver();
        for (int i = 0; i < 4; i++) {
            x.bit(false, false);
        }
        x.input();
        x.next(1, x.gate(9, 4) * 2 + 1);
        x.bad(x.gate(8, 2) * 2);
        due("bad hangs on bit 1, that on bit 2", x.cone(), 6);
        x.assume(7);
        due("an assumption hangs on bit 3", x.cone(), 14);
    }

    static void t3_forEver_aRunThatMustEndIsNone() {
        FrameProver x = Machines.graph(2, 1, 0, new int[][] {{1, 1}, {2, 2}, {3, 3}, {-1, -1}});
        due("live", x.live(), NONE);
    }

    static void t3_forEver_aFairOneCountsInAStateWithTheChoicesOfItsStep() {
        // In state 0 the input 1 leads away for good, 0 stays.
        FrameProver x = Machines.graph(1, 1, 0, new int[][] {{0, 1}, {-1, -1}});
        due("live", x.live(), 0);
        x.fair(3);
        due("the input is 0 again and again", x.live(), 0);
        x.fair(2);
        due("it is 1 but once", x.live(), NONE);
    }

    static void t3_forEver_eachFairOneButNotAtOnce() {
        FrameProver x = new FrameProver();
        x.bit(false, false);
        x.next(0, 1);
        x.fair(0);
        x.fair(1);
        due("in turn", x.live(), 0);
    }

    // ---- 4 REFUSALS

    static void t4_status_countsEachKindByItself() {
        FrameProver x = Machines.busy();
        int[] before = new int[9];
        for (int by = -8; by <= -2; by++) {
            before[-by] = x.status(by);
        }
        x.take();
        x.gate(99, 0);
        x.within(-1);
        x.next(2, 0);
        x.copy(9, 9, 9);
        x.fails(2);
        for (int i = 0; i < 4; i++) {
            x.input();
        }
        for (int by = -8; by <= -2; by++) {
            due("status(" + by + ")", x.status(by), before[-by] + 1);
        }
    }

    static void t4_status_noneIsNoRefusal() {
        FrameProver x = new FrameProver();
        x.shortest();
        x.bad(NONE);
        x.trouble(0, 0);
        x.fails(0);
        for (int by = -8; by <= -2; by++) {
            due("status(" + by + ")", x.status(by), 0);
        }
    }

    static void t4_calls_the512thIsAnsweredAsTheFirst() {
        FrameProver x = new FrameProver();
        x.bit(false, false);
        x.next(0, 1);
        for (int call = 3; call <= 512; call++) {
            due("step", x.step(0), call % 2);
        }
    }

    static void t4_refusal_changesNothingHoweverOften() {
        unchanged(Machines::busy, x -> {
            for (int i = 0; i < 12; i++) {
                x.bad(99);
                x.next(3, 0);
                x.list(4, 4);
                x.prove(5001);
                x.step(2);
                x.lay(4, 0);
                x.copy(0, 1, 5);
                x.forge(0, 2, true);
            }
            return 0;
        });
    }
}
