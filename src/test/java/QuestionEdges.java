/** Promises 24 to 30: questions. */
final class QuestionEdges extends Edges {

    /** Eight bits that stand still at 0. */
    private static FrameProver still() {
        FrameProver x = new FrameProver();
        for (int i = 0; i < 8; i++) {
            x.bit(false, false);
        }
        x.bad(0);
        return x;
    }

    // ---- 24 ask

    static void p24_ask_frame0And24AreTaken() {
        FrameProver x = Machines.twoBits();
        due("0", x.ask(0, 3, 1), 0);
        due("24", x.ask(24, 3, 3), 1);
    }

    static void p24_ask_beyond_25() {
        refused(BEYOND, Machines::busy, x -> x.ask(25, 3, 3));
    }

    static void p24_ask_beyond_below0() {
        refused(BEYOND, Machines::busy, x -> x.ask(-1, 3, 3));
        refused(BEYOND, Machines::busy, x -> x.ask(LOW, 3, 3));
    }

    static void p24_ask_beyond_farAway() {
        refused(BEYOND, Machines::busy, x -> x.ask(TOP, 3, 3));
    }

    static void p24_ask_theLeastStateOfSeveral() {
        FrameProver x = Machines.graph(2, 1, 0, new int[][] {{0, 0}, {3, 3}, {0, 3}, {3, 3}}, 3);
        due("1 of 1 and 2", x.ask(1, 3, 3), 1);
    }

    static void p24_ask_aStateInTheCubeDoesNotCount() {
        FrameProver x = Machines.graph(2, 1, 0, new int[][] {{0, 0}, {1, 1}, {3, 3}, {3, 3}}, 3);
        due("2 is not in 3, 3", x.ask(1, 3, 3), 2);
        due("it is in 2, 2", x.ask(1, 2, 2), NONE);
    }

    static void p24_ask_byTheLastChoicesToo() {
        FrameProver x = Machines.graph(2, 1, 0, new int[][] {{0, 0}, {0, 3}, {3, -1}, {0, 0}}, 3);
        due("1 by choices 1", x.ask(1, 3, 3), 1);
    }

    static void p24_ask_theBeginningOfFrame0InTheCube() {
        due("ask", Machines.twoBits().ask(0, 1, 0), NONE);
    }

    static void p24_ask_none_noStepLeadsThere() {
        due("ask", still().ask(24, 255, 255), NONE);
    }

    static void p24_ask_ofFramesWithClauses() {
        FrameProver x = Machines.ended();
        due("frame 1 has 0 and 1", x.ask(1, 3, 2), NONE);
        due("frame 2 has all", x.ask(2, 3, 2), 3);
    }

    static void p24_ask_theWholeMaskIsTaken_andMask0() {
        FrameProver x = still();
        due("255", x.ask(1, 255, 255), NONE);
        due("0", x.ask(1, 0, 0), NONE);
        due("nothing was refused", x.status(NO), 0);
    }

    static void p24_ask_no_maskWithABitThatNoStateHas() {
        refused(NO, Machines::busy, x -> x.ask(1, 4, 0));
        refused(NO, QuestionEdges::still, x -> x.ask(1, 256, 0));
    }

    static void p24_ask_no_maskBelow0() {
        refused(NO, Machines::busy, x -> x.ask(1, -1, 0));
        refused(NO, Machines::busy, x -> x.ask(1, LOW, 0));
    }

    static void p24_ask_no_valuesOutsideTheMask() {
        refused(NO, Machines::busy, x -> x.ask(1, 1, 2));
        refused(NO, Machines::busy, x -> x.ask(1, 0, 1));
        refused(NO, Machines::busy, x -> x.ask(1, 3, 4));
    }

    static void p24_ask_no_valuesBelow0() {
        refused(NO, Machines::busy, x -> x.ask(1, 3, -1));
        refused(NO, Machines::busy, x -> x.ask(1, 3, LOW));
    }

    static void p24_ask_no_farAway() {
        refused(NO, Machines::busy, x -> x.ask(0, TOP, 0));
        refused(NO, Machines::busy, x -> x.ask(0, TOP, TOP));
    }

    static void p24_ask_beyondComesBeforeNo() {
        refused(BEYOND, Machines::busy, x -> x.ask(25, 4, 0));
        refused(BEYOND, Machines::busy, x -> x.ask(-1, 0, 1));
    }

    // ---- 25 widen

    static void p25_widen_frame1And24AreTaken() {
        FrameProver x = still();
        due("1", x.widen(1, 255, 255), 128);
        due("24", x.widen(24, 255, 255), 128);
    }

    static void p25_widen_beyond_0() {
        refused(BEYOND, Machines::busy, x -> x.widen(0, 3, 3));
    }

    static void p25_widen_beyond_25() {
        refused(BEYOND, Machines::busy, x -> x.widen(25, 3, 3));
    }

    static void p25_widen_beyond_farAway() {
        refused(BEYOND, Machines::busy, x -> x.widen(-1, 3, 3));
        refused(BEYOND, Machines::busy, x -> x.widen(TOP, 3, 3));
        refused(BEYOND, Machines::busy, x -> x.widen(LOW, 3, 3));
    }

    static void p25_widen_oneBitThatMustStay() {
        due("widen", still().widen(1, 4, 4), 4);
    }

    static void p25_widen_no_mask() {
        refused(NO, Machines::busy, x -> x.widen(1, 4, 4));
        refused(NO, QuestionEdges::still, x -> x.widen(1, 256, 256));
        refused(NO, Machines::busy, x -> x.widen(1, -1, 3));
    }

    static void p25_widen_no_values() {
        refused(NO, Machines::busy, x -> x.widen(1, 1, 2));
        refused(NO, Machines::busy, x -> x.widen(1, 2, 3));
        refused(NO, Machines::busy, x -> x.widen(1, 3, -1));
    }

    static void p25_widen_no_theBeginningIsInIt() {
        refused(NO, QuestionEdges::still, x -> x.widen(1, 255, 0));
        refused(NO, QuestionEdges::still, x -> x.widen(24, 1, 0));
    }

    static void p25_widen_no_mask0HasTheBeginning() {
        refused(NO, QuestionEdges::still, x -> x.widen(1, 0, 0));
        refused(NO, FrameProver::new, x -> x.widen(1, 0, 0));
    }

    static void p25_widen_no_askOfKLess1TellsAState() {
        refused(NO, Machines::twoBits, x -> x.widen(1, 3, 1));
        refused(NO, Machines::twoBits, x -> x.widen(2, 3, 3));
    }

    static void p25_widen_askOfKItselfMayTellAState() {
        FrameProver x = Machines.twoBits();
        due("frame 1 leads there", x.ask(1, 3, 3), 1);
        due("frame 0 does not", x.ask(0, 3, 3), NONE);
        due("widen", x.widen(1, 3, 3), 2);
    }

    static void p25_widen_withTheClausesOfFrameKLess1() {
        FrameProver x = Machines.ended();
        due("2 comes from 3 alone, which is out of frame 1; 0 leads to 1, 1 to 3", x.widen(2, 3, 2), 3);
        FrameProver y = Machines.twoBits();
        due("without clauses 3 leads to 2", y.widen(2, 3, 2), NO);
    }

    static void p25_widen_learnsNothing() {
        unchanged(Machines::busy, x -> x.widen(1, 3, 3));
    }

    static void p25_widen_beyondComesBeforeNo() {
        refused(BEYOND, Machines::busy, x -> x.widen(0, 4, 4));
        refused(BEYOND, Machines::busy, x -> x.widen(25, 1, 2));
    }

    // ---- 26 shortest

    static void p26_shortest_0WhereTheBeginningIsBad() {
        due("shortest", still().shortest(), NONE);
        FrameProver x = still();
        x.bad(1);
        due("shortest", x.shortest(), 0);
    }

    static void p26_shortest_255AtMost() {
        due("255", Machines.counter(8, 255).shortest(), 255);
        due("254", Machines.counter(8, 254).shortest(), 254);
    }

    static void p26_shortest_theFewestOfSeveralWays() {
        FrameProver x = Machines.graph(2, 1, 0, new int[][] {{1, 2}, {2, 2}, {3, 3}, {3, 3}}, 3);
        due("by 2, not by 1", x.shortest(), 2);
    }

    static void p26_shortest_none_noBadComes() {
        due("none reachable", Machines.twice().shortest(), NONE);
        due("no bad told", new FrameProver().shortest(), NONE);
    }

    static void p26_shortest_none_theWayIsNotRight() {
        FrameProver x = Machines.twoBits();
        x.assume(3);
        due("from 3 on it is not right, and 3 is not bad then", x.shortest(), NONE);
    }

    static void p26_shortest_needsNoProof() {
        unchanged(Machines::twoBits, x -> x.shortest());
    }

    // ---- 27 within

    static void p27_within_0IsTheBeginningAlone() {
        due("within", Machines.twoBits().within(0), 1);
        due("within", new FrameProver().within(0), 1);
    }

    static void p27_within_nSteps() {
        FrameProver x = Machines.counter(3, 7);
        for (int n = 0; n <= 7; n++) {
            due("within(" + n + ")", x.within(n), n + 1);
        }
        due("all are there", x.within(8), 8);
    }

    static void p27_within_all256() {
        FrameProver x = Machines.counter(8, 7);
        due("254", x.within(254), 255);
        due("255", x.within(255), 256);
        due("256", x.within(256), 256);
    }

    static void p27_within_asManyStepsAsANumberTells() {
        due("within", Machines.twoBits().within(TOP), 4);
    }

    static void p27_within_aRunThatEndsNeedNotGoOn() {
        FrameProver x = Machines.graph(2, 1, 0, new int[][] {{1, 1}, {-1, -1}, {3, 3}, {3, 3}});
        due("0", x.within(0), 1);
        due("1", x.within(1), 2);
        due("9", x.within(9), 2);
    }

    static void p27_within_below() {
        refused(BELOW, Machines::busy, x -> x.within(-1));
        refused(BELOW, Machines::busy, x -> x.within(LOW));
    }

    // ---- 28 keeps

    static void p28_keeps_1And24AreTaken() {
        FrameProver x = Machines.ended();
        due("1", x.keeps(1), 1);
        due("24", x.keeps(24), 1);
    }

    static void p28_keeps_allFramesOfAProof() {
        for (Edges.Recipe recipe : new Edges.Recipe[] {Machines::twice, Machines::pushedFar, Machines::laterWall,
            Machines::twoBits, () -> Machines.counter(3, 5)}) {
            FrameProver x = recipe.make();
            for (int i = 0; i < 6; i++) {
                x.prove(1);
                for (int k = 1; k <= 24; k++) {
                    due("keeps(" + k + ")", x.keeps(k), 1);
                }
            }
        }
    }

    static void p28_keeps_beyond_0() {
        refused(BEYOND, Machines::busy, x -> x.keeps(0));
    }

    static void p28_keeps_beyond_25() {
        refused(BEYOND, Machines::busy, x -> x.keeps(25));
    }

    static void p28_keeps_beyond_farAway() {
        refused(BEYOND, Machines::busy, x -> x.keeps(-1));
        refused(BEYOND, Machines::busy, x -> x.keeps(TOP));
        refused(BEYOND, Machines::busy, x -> x.keeps(LOW));
    }

    // ---- 29 cone

    static void p29_cone_missing_noBad() {
        refused(MISSING, FrameProver::new, x -> x.cone());
        refused(MISSING, () -> {
            FrameProver x = Machines.twoBits();
            x.bad(NONE);
            return x;
        }, x -> x.cone());
    }

    static void p29_cone_missing_thoughThereIsAnAssumption() {
        refused(MISSING, Machines::fullOfSigns, x -> x.cone());
    }

    static void p29_cone_ofAnInputIsEmpty() {
        FrameProver x = Machines.twoBits();
        x.bad(5);
        due("cone", x.cone(), 0);
    }

    static void p29_cone_ofAHeldBitIsThatBit() {
        FrameProver x = new FrameProver();
        x.bit(false, false);
        x.bit(true, true);
        x.bad(3);
        due("cone", x.cone(), 2);
    }

    static void p29_cone_bad0IsASign() {
        FrameProver x = new FrameProver();
        x.bit(false, false);
        x.bad(0);
        due("cone", x.cone(), 1);
    }

    static void p29_cone_overSevenNexts() {
        FrameProver x = new FrameProver();
        for (int i = 0; i < 8; i++) {
            x.bit(false, false);
        }
        for (int i = 0; i < 7; i++) {
            x.next(i, 2 * i + 3);
        }
        x.bad(0);
        due("all", x.cone(), 255);
        x.bad(14);
        due("the last alone", x.cone(), 128);
    }

    static void p29_cone_overSevenNextsDownwards() {
        FrameProver x = new FrameProver();
        for (int i = 0; i < 8; i++) {
            x.bit(false, false);
        }
        for (int i = 1; i < 8; i++) {
            x.next(i, 2 * i - 2);
        }
        x.bad(14);
        due("all", x.cone(), 255);
        x.bad(0);
        due("the first alone", x.cone(), 1);
    }

    static void p29_cone_eachAssumptionCounts() {
        FrameProver x = new FrameProver();
        for (int i = 0; i < 5; i++) {
            x.bit(false, false);
        }
        x.bad(0);
        int due = 1;
        for (int i = 1; i <= 4; i++) {
            x.assume(2 * i + 1);
            due += 1 << i;
            due("cone", x.cone(), due);
        }
    }

    static void p29_cone_aFairOneDoesNotCount() {
        FrameProver x = new FrameProver();
        x.bit(false, false);
        x.bit(false, false);
        x.bad(0);
        x.fair(2);
        due("cone", x.cone(), 1);
    }

    static void p29_cone_bothSignsOfAGate_overGatesOfGates() {
        FrameProver x = new FrameProver();
        for (int i = 0; i < 4; i++) {
            x.bit(false, false);
        }
        x.bad(2 * x.gate(2 * x.gate(0, 3) + 1, 2 * x.gate(7, 7)));
        due("0, 1, 3", x.cone(), 11);
    }

    static void p29_cone_ofAMachineThatHangsOnNothing_aGateOfItsDenials() {
        FrameProver x = new FrameProver();
        x.bit(false, false);
        x.bad(2 * x.gate(0, 1));
        due("it hangs on bit 0, though it is 0 always", x.cone(), 1);
    }

    // ---- 30 live

    static void p30_live_withoutPartsTheOneStateStays() {
        due("live", new FrameProver().live(), 0);
    }

    static void p30_live_theLeastOfACircle() {
        due("0, 1, 3, 2", Machines.twoBits().live(), 0);
        FrameProver x = Machines.graph(2, 1, 0, new int[][] {{3, 3}, {2, 2}, {1, 1}, {2, 2}});
        due("1 and 2 turn round", x.live(), 1);
    }

    static void p30_live_notAStateThatComesButOnce() {
        FrameProver x = Machines.graph(2, 1, 0, new int[][] {{1, 2}, {3, 3}, {2, 2}, {3, 3}});
        due("2 and 3 stay", x.live(), 2);
    }

    static void p30_live_notAStateThatNeverComes() {
        FrameProver x = Machines.graph(2, 1, 1, new int[][] {{0, 0}, {2, 2}, {3, 3}, {3, 3}});
        due("0 stays, but never comes", x.live(), 3);
    }

    static void p30_live_none_eachRunEnds() {
        FrameProver x = Machines.graph(2, 1, 0, new int[][] {{1, 2}, {-1, -1}, {-1, -1}, {3, 3}});
        due("live", x.live(), NONE);
    }

    static void p30_live_stateStays255() {
        FrameProver x = new FrameProver();
        for (int i = 0; i < 8; i++) {
            x.bit(true, false);
        }
        due("live", x.live(), 255);
        x.fair(1);
        due("bit 0 is never 0", x.live(), NONE);
    }

    static void p30_live_aFairOneOfAnotherCircleDoesNotHelp() {
        // 1 stays, or leads to 2, which stays; bit 0 is 1 in the first, bit 1 in the second.
        FrameProver x = Machines.graph(2, 1, 1, new int[][] {{0, 0}, {1, 2}, {2, 2}, {3, 3}});
        x.fair(0);
        due("1", x.live(), 1);
        x.fair(2);
        due("not both", x.live(), NONE);
    }

    static void p30_live_aFairOneOnASideOfTheCircle() {
        // 0 stays or goes by 3 and back: the run must pass 3 again and again, 0 comes with it.
        FrameProver x = Machines.graph(2, 1, 0, new int[][] {{0, 3}, {1, 1}, {2, 2}, {0, 0}});
        x.fair(2);
        due("live", x.live(), 0);
        x.fair(3);
        due("and bit 1 is 0 in turn", x.live(), 0);
    }

    static void p30_live_eachOfThreeFairOnesMatters() {
        for (int never = 0; never < 3; never++) {
            FrameProver x = new FrameProver();
            x.bit(true, false);
            for (int i = 0; i < 3; i++) {
                x.fair(i == never ? 1 : 0);
            }
            due("live", x.live(), NONE);
        }
        FrameProver x = new FrameProver();
        x.bit(true, false);
        for (int i = 0; i < 3; i++) {
            x.fair(0);
        }
        due("live", x.live(), 1);
    }

    static void p30_live_aFairOneByChoicesThatAreNotRightDoesNotCount() {
        FrameProver x = new FrameProver();
        x.bit(false, false);
        x.input();
        x.fair(2);
        due("live", x.live(), 0);
        x.assume(3);
        due("live", x.live(), NONE);
    }

    static void p30_live_aFairOneOfAGate() {
        FrameProver x = new FrameProver();
        x.bit(false, false);
        x.input();
        x.next(0, 2);
        x.fair(2 * x.gate(0, 3));
        due("in 1 with 0", x.live(), 0);
    }
}
