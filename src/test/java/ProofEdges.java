/** Promises 15 to 23: proving. */
final class ProofEdges extends Edges {

    // ---- 15 prove

    static void p15_prove_0Spent() {
        due("prove", Machines.twoBits().prove(1), 0);
    }

    static void p15_prove_1Wall() {
        due("prove", Machines.twice().prove(5000), 1);
    }

    static void p15_prove_2Way() {
        due("prove", Machines.twoBits().prove(5000), 2);
    }

    static void p15_prove_3Full() {
        due("prove", Machines.register(24).prove(5000), 3);
    }

    static void p15_prove_withoutPartsAWall() {
        due("prove", new FrameProver().prove(1), 1);
    }

    static void p15_prove_1And5000AreTaken() {
        FrameProver x = Machines.twoBits();
        due("1", x.prove(1), 0);
        due("one look", x.count(6), 1);
        due("5000", x.prove(5000), 2);
    }

    static void p15_prove_no_0() {
        refused(NO, Machines::twoBits, x -> x.prove(0));
        refused(NO, Machines::busy, x -> x.prove(0));
    }

    static void p15_prove_no_5001() {
        refused(NO, Machines::twoBits, x -> x.prove(5001));
        refused(NO, Machines::busy, x -> x.prove(5001));
    }

    static void p15_prove_no_farAbove() {
        refused(NO, Machines::busy, x -> x.prove(TOP));
    }

    static void p15_prove_below_nBelow0() {
        refused(BELOW, Machines::twoBits, x -> x.prove(-1));
        refused(BELOW, Machines::busy, x -> x.prove(LOW));
    }

    static void p15_prove_refusedAfterItEnded() {
        refused(NO, Machines::ended, x -> x.prove(0));
        refused(NO, Machines::walled, x -> x.prove(5001));
        refused(BELOW, Machines::walled, x -> x.prove(-1));
    }

    static void p15_prove_whatHasEndedStaysSo_aWall() {
        FrameProver x = Machines.walled();
        for (int i = 0; i < 3; i++) {
            due("prove", x.prove(1), 1);
        }
        unchanged(Machines::walled, y -> y.prove(5000));
    }

    static void p15_prove_whatHasEndedStaysSo_aWay() {
        FrameProver x = Machines.ended();
        for (int i = 0; i < 3; i++) {
            due("prove", x.prove(1), 2);
        }
        unchanged(Machines::ended, y -> y.prove(5000));
    }

    static void p15_prove_whatHasEndedStaysSo_full() {
        FrameProver x = Machines.register(24);
        due("prove", x.prove(5000), 3);
        due("again", x.prove(5000), 3);
        due("N", x.frames(), 23);
        FrameProver y = Machines.frameOf201();
        due("prove", y.prove(5000), 3);
        due("again", y.prove(1), 3);
        due("looks", y.count(6), 201);
    }

    static void p15_prove_afterAChangeItBeginsAnew() {
        FrameProver x = Machines.ended();
        x.bad(NONE);
        due("a wall", x.prove(1), 1);
        due("N", x.frames(), 1);
        x.bad(6);
        due("a way", x.prove(5000), 2);
        due("N", x.frames(), 2);
        due("looks", x.count(6), 4);
    }

    // ---- 16 frames

    static void p16_frames_0BeforeTheFirstProve() {
        FrameProver x = Machines.twoBits();
        due("frames", x.frames(), 0);
        x.prove(0);
        x.prove(-1);
        x.prove(5001);
        due("a refused one is none", x.frames(), 0);
    }

    static void p16_frames_nAfterIt() {
        FrameProver x = Machines.twoBits();
        x.prove(1);
        due("frames", x.frames(), 2);
        due("at once", Machines.pushedBoth().frames(), 0);
    }

    static void p16_frames_0AgainAfterAChange() {
        FrameProver x = Machines.ended();
        x.gate(0, 0);
        due("frames", x.frames(), 0);
    }

    static void p16_frames_23AtMost() {
        FrameProver x = Machines.register(24);
        x.prove(5000);
        due("frames", x.frames(), 23);
    }

    // ---- 17 clauses

    static void p17_clauses_1And24AreTaken() {
        FrameProver x = Machines.ended();
        due("1", x.clauses(1), 1);
        due("24", x.clauses(24), 0);
    }

    static void p17_clauses_noneBeforeTheFirstProve() {
        FrameProver x = Machines.twoBits();
        for (int k = 1; k <= 24; k++) {
            due("clauses(" + k + ")", x.clauses(k), 0);
        }
    }

    static void p17_clauses_200OfAFullFrame() {
        FrameProver x = Machines.frameOf201();
        x.prove(5000);
        due("clauses(1)", x.clauses(1), 200);
        due("clauses(2)", x.clauses(2), 192);
    }

    static void p17_clauses_beyond_0() {
        refused(BEYOND, Machines::ended, x -> x.clauses(0));
    }

    static void p17_clauses_beyond_25() {
        refused(BEYOND, Machines::ended, x -> x.clauses(25));
    }

    static void p17_clauses_beyond_farAway() {
        refused(BEYOND, Machines::ended, x -> x.clauses(-1));
        refused(BEYOND, Machines::ended, x -> x.clauses(TOP));
        refused(BEYOND, Machines::ended, x -> x.clauses(LOW));
    }

    // ---- 18 clause

    static void p18_clause_falseIsTheMask_trueTheValues() {
        FrameProver x = new FrameProver();
        x.bit(true, true);
        x.bit(false, true);
        x.bad(1);
        due("prove", x.prove(1), 1);
        due("mask", x.clause(1, 0, false), 1);
        due("values", x.clause(1, 0, true), 0);
    }

    static void p18_clause_theFirstAndTheLast() {
        FrameProver x = Machines.twice();
        x.prove(5000);
        due("first", x.clause(1, 0, false), 2);
        due("last", x.clause(1, 2, false), 2);
        due("last", x.clause(1, 2, true), 2);
    }

    static void p18_clause_number199OfAFullFrame() {
        FrameProver x = Machines.frameOf201();
        x.prove(5000);
        due("it is there", x.clause(1, 199, false) > 0 ? 1 : 0, 1);
        due("200 is not", x.clause(1, 200, false), BEYOND);
    }

    static void p18_clause_beyond_iBehindTheLast() {
        refused(BEYOND, Machines::ended, x -> x.clause(1, 1, true));
    }

    static void p18_clause_beyond_aFrameWithoutClauses() {
        refused(BEYOND, Machines::ended, x -> x.clause(24, 0, true));
        refused(BEYOND, Machines::twoBits, x -> x.clause(1, 0, false));
    }

    static void p18_clause_beyond_iBelow0() {
        refused(BEYOND, Machines::ended, x -> x.clause(1, -1, true));
        refused(BEYOND, Machines::ended, x -> x.clause(1, LOW, true));
    }

    static void p18_clause_beyond_frame0() {
        refused(BEYOND, Machines::ended, x -> x.clause(0, 0, true));
    }

    static void p18_clause_beyond_frame25() {
        refused(BEYOND, Machines::ended, x -> x.clause(25, 0, true));
    }

    static void p18_clause_beyond_farAway() {
        refused(BEYOND, Machines::ended, x -> x.clause(TOP, 0, true));
        refused(BEYOND, Machines::ended, x -> x.clause(1, TOP, true));
    }

    // ---- 19 trouble

    static void p19_trouble_0IsTheFirstOne() {
        FrameProver x = Machines.busy();
        int[] states = {3, 1, 0};
        for (int i = 0; i < 3; i++) {
            due("state", x.trouble(i, 0), states[i]);
            due("frame", x.trouble(i, 1), 2 - i);
        }
    }

    static void p19_trouble_noneBehindTheLast() {
        FrameProver x = Machines.busy();
        due("state", x.trouble(3, 0), NONE);
        due("frame", x.trouble(3, 1), NONE);
        due("far", x.trouble(TOP, 0), NONE);
        due("not refused", x.status(BEYOND), 0);
    }

    static void p19_trouble_noneBeforeTheFirstProve() {
        FrameProver x = Machines.twoBits();
        due("state", x.trouble(0, 0), NONE);
        due("frame", x.trouble(0, 1), NONE);
    }

    static void p19_trouble_noneWhereAWallIs() {
        FrameProver x = Machines.walled();
        due("state", x.trouble(0, 0), NONE);
    }

    static void p19_trouble_theyStayWhereAWayIsFound() {
        FrameProver x = Machines.ended();
        due("state", x.trouble(2, 0), 0);
        due("frame", x.trouble(2, 1), 0);
        due("no more", x.trouble(3, 0), NONE);
    }

    static void p19_trouble_theLastOneStaysWhereAFrameIsFull() {
        FrameProver x = Machines.frameOf201();
        x.prove(5000);
        due("state", x.trouble(0, 0), 254);
        due("frame", x.trouble(0, 1), 3);
        due("no more", x.trouble(1, 0), NONE);
    }

    static void p19_trouble_as24OfThem() {
        FrameProver x = Machines.register(23);
        x.prove(5000);
        due("the 24th is the beginning", x.trouble(23, 0), 0);
        due("of frame 0", x.trouble(23, 1), 0);
        due("no more", x.trouble(24, 0), NONE);
    }

    static void p19_trouble_below_iBelow0() {
        refused(BELOW, Machines::busy, x -> x.trouble(-1, 0));
        refused(BELOW, Machines::busy, x -> x.trouble(LOW, 1));
    }

    static void p19_trouble_no_whatIs2() {
        refused(NO, Machines::busy, x -> x.trouble(0, 2));
    }

    static void p19_trouble_no_whatBelow0() {
        refused(NO, Machines::busy, x -> x.trouble(0, -1));
    }

    static void p19_trouble_no_evenBehindTheLast() {
        refused(NO, Machines::busy, x -> x.trouble(3, 2));
    }

    static void p19_trouble_belowComesBeforeNo() {
        refused(BELOW, Machines::busy, x -> x.trouble(-1, 2));
    }

    // ---- 20 way

    static void p20_way_howManySteps() {
        due("two", Machines.ended().way(), 2);
    }

    static void p20_way_0WhereTheBeginningIsBad() {
        FrameProver x = Machines.counter(2, 0);
        x.prove(1);
        due("way", x.way(), 0);
    }

    static void p20_way_23AtMost() {
        FrameProver x = Machines.register(23);
        x.prove(5000);
        due("way", x.way(), 23);
    }

    static void p20_way_missing_beforeTheFirstProve() {
        refused(MISSING, Machines::twoBits, x -> x.way());
    }

    static void p20_way_missing_whereItIsSpent() {
        refused(MISSING, Machines::busy, x -> x.way());
    }

    static void p20_way_missing_whereAWallIs() {
        refused(MISSING, Machines::walled, x -> x.way());
    }

    static void p20_way_missing_whereItIsFull() {
        refused(MISSING, () -> {
            FrameProver x = Machines.register(24);
            x.prove(5000);
            return x;
        }, x -> x.way());
    }

    static void p20_way_missing_afterAChange() {
        refused(MISSING, () -> {
            FrameProver x = Machines.ended();
            x.fair(0);
            return x;
        }, x -> x.way());
    }

    // ---- 21 wayState

    static void p21_wayState_fromTheBeginningToABadOne() {
        FrameProver x = Machines.ended();
        due("first", x.wayState(0), 0);
        due("then", x.wayState(1), 1);
        due("last", x.wayState(2), 3);
    }

    static void p21_wayState_ofAWayOfNoSteps() {
        FrameProver x = Machines.counter(2, 0);
        x.prove(1);
        due("0", x.wayState(0), 0);
        due("1", x.wayState(1), BEYOND);
    }

    static void p21_wayState_beyond_behindTheLast() {
        refused(BEYOND, Machines::ended, x -> x.wayState(3));
    }

    static void p21_wayState_beyond_below0() {
        refused(BEYOND, Machines::ended, x -> x.wayState(-1));
        refused(BEYOND, Machines::ended, x -> x.wayState(LOW));
    }

    static void p21_wayState_beyond_farAway() {
        refused(BEYOND, Machines::ended, x -> x.wayState(TOP));
    }

    static void p21_wayState_missing() {
        refused(MISSING, Machines::busy, x -> x.wayState(0));
        refused(MISSING, Machines::walled, x -> x.wayState(0));
    }

    static void p21_wayState_missingIsLookedAtFirst() {
        refused(MISSING, Machines::busy, x -> x.wayState(-1));
        refused(MISSING, Machines::twoBits, x -> x.wayState(TOP));
    }

    // ---- 22 wayChoice

    /** 0 leads to 1 by 2 and 3; 1 is bad by 1 and 3, and leads back by 0. */
    private static FrameProver withChoices() {
        FrameProver x = new FrameProver();
        x.bit(false, false);
        x.input();
        x.input();
        x.next(0, 2 * x.gate(1, 4));
        x.bad(2 * x.gate(0, 2));
        x.prove(5000);
        return x;
    }

    static void p22_wayChoice_theLeastToTheNext() {
        due("2 of 2 and 3", withChoices().wayChoice(0), 2);
    }

    static void p22_wayChoice_0WhereAllChoicesLeadThere() {
        due("0 of 0 and 1", Machines.ended().wayChoice(0), 0);
        due("0 of 0 and 1", Machines.ended().wayChoice(1), 0);
        due("0 of 0 and 1", Machines.ended().wayChoice(2), 0);
    }

    static void p22_wayChoice_theLeastByWhichTheLastIsBad() {
        due("1 of 1 and 3", withChoices().wayChoice(1), 1);
    }

    static void p22_wayChoice_rightOnesAlone() {
        FrameProver x = withChoices();
        x.assume(2);
        due("prove", x.prove(5000), 2);
        due("3, for 2 is not right", x.wayChoice(0), 3);
        due("1", x.wayChoice(1), 1);
    }

    static void p22_wayChoice_0And15() {
        FrameProver x = new FrameProver();
        x.bit(false, false);
        for (int i = 0; i < 4; i++) {
            x.input();
        }
        int all = 2 * x.gate(2 * x.gate(2, 4), 2 * x.gate(6, 8));
        x.next(0, all);
        x.bad(0);
        due("prove", x.prove(5000), 2);
        due("15", x.wayChoice(0), 15);
        due("0", x.wayChoice(1), 0);
    }

    static void p22_wayChoice_ofAWayOfNoSteps() {
        FrameProver x = new FrameProver();
        x.bit(true, false);
        x.input();
        x.bad(2);
        x.prove(1);
        due("0", x.wayChoice(0), 1);
        due("1", x.wayChoice(1), BEYOND);
    }

    static void p22_wayChoice_beyond_behindTheLast() {
        refused(BEYOND, Machines::ended, x -> x.wayChoice(3));
    }

    static void p22_wayChoice_beyond_below0() {
        refused(BEYOND, Machines::ended, x -> x.wayChoice(-1));
        refused(BEYOND, Machines::ended, x -> x.wayChoice(LOW));
    }

    static void p22_wayChoice_beyond_farAway() {
        refused(BEYOND, Machines::ended, x -> x.wayChoice(TOP));
    }

    static void p22_wayChoice_missing() {
        refused(MISSING, Machines::busy, x -> x.wayChoice(0));
        refused(MISSING, Machines::walled, x -> x.wayChoice(0));
    }

    static void p22_wayChoice_missingIsLookedAtFirst() {
        refused(MISSING, Machines::busy, x -> x.wayChoice(-1));
        refused(MISSING, Machines::twoBits, x -> x.wayChoice(TOP));
    }

    // ---- 23 take

    static void p23_take_theListBecomesTheWall() {
        FrameProver x = Machines.walled();
        due("another list before", x.count(7), 2);
        due("take", x.take(), 2);
        due("count", x.count(7), 2);
        due("2, 2", x.listed(0, false) * 4 + x.listed(0, true), 10);
        due("1, 1", x.listed(1, false) * 4 + x.listed(1, true), 5);
        due("judge", x.judge(), 0);
    }

    static void p23_take_aWallOfNoClausesEmptiesTheList() {
        FrameProver x = new FrameProver();
        x.bit(false, false);
        x.prove(1);
        x.list(1, 1);
        due("take", x.take(), 0);
        due("count", x.count(7), 0);
    }

    static void p23_take_leavesTheWallAndTheProof() {
        FrameProver x = Machines.walled();
        x.take();
        x.forge(0, 0, true);
        x.clear();
        due("the frame", x.clause(1, 0, false), 2);
        due("take", x.take(), 2);
        due("as it was", x.listed(0, false), 2);
        due("prove", x.prove(1), 1);
    }

    static void p23_take_100AreTaken() {
        FrameProver x = Machines.wallOf100();
        due("prove", x.prove(5000), 1);
        due("take", x.take(), 100);
        due("count", x.count(7), 100);
        due("judge", x.judge(), 0);
    }

    static void p23_take_100AreTakenInPlaceOf100() {
        FrameProver x = Machines.wallOf100();
        x.prove(5000);
        for (int i = 0; i < 100; i++) {
            x.list(255, 255);
        }
        due("take", x.take(), 100);
        due("judge", x.judge(), 0);
    }

    static void p23_take_full_101() {
        refused(FULL, () -> {
            FrameProver x = Machines.wallOf101();
            x.prove(5000);
            x.list(1, 1);
            x.judge();
            return x;
        }, x -> x.take());
    }

    static void p23_take_missing_beforeTheFirstProve() {
        refused(MISSING, Machines::twoBits, x -> x.take());
    }

    static void p23_take_missing_whereItIsSpent() {
        refused(MISSING, Machines::busy, x -> x.take());
    }

    static void p23_take_missing_whereAWayIs() {
        refused(MISSING, Machines::ended, x -> x.take());
    }

    static void p23_take_missing_whereItIsFull() {
        refused(MISSING, () -> {
            FrameProver x = Machines.frameOf201();
            x.prove(5000);
            return x;
        }, x -> x.take());
    }

    static void p23_take_missing_afterAChange() {
        refused(MISSING, () -> {
            FrameProver x = Machines.walled();
            x.fair(0);
            return x;
        }, x -> x.take());
    }
}
