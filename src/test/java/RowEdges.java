/** Promises 38 to 42: rows. */
final class RowEdges extends Edges {

    /** The row 1, 0, 1, 0, 0: state 1 of twoBits() with choices 1. */
    private static FrameProver laid() {
        FrameProver x = Machines.twoBits();
        x.lay(1, 1);
        return x;
    }

    private static void rowIs(FrameProver x, int... due) {
        for (int i = 0; i < due.length; i++) {
            due("row(" + i + ")", x.row(i), due[i]);
        }
        due("its end", x.row(due.length), BEYOND);
    }

    // ---- 38 lay

    static void p38_lay_theValuesOfAllParts() {
        FrameProver x = Machines.twoBits();
        due("lay", x.lay(1, 1), 5);
        rowIs(x, 1, 0, 1, 0, 0);
        due("lay", x.lay(0, 0), 5);
        rowIs(x, 0, 0, 0, 0, 1);
        due("lay", x.lay(3, 0), 5);
        rowIs(x, 1, 1, 0, 1, 0);
    }

    static void p38_lay_withChoicesThatAreNotRight() {
        FrameProver x = Machines.twoBits();
        x.assume(5);
        due("lay", x.lay(0, 1), 5);
        due("the input", x.row(2), 1);
    }

    static void p38_lay_withoutPartsARowOf0() {
        FrameProver x = new FrameProver();
        due("lay", x.lay(0, 0), 0);
        due("nothing in it", x.row(0), BEYOND);
        due("copy", x.copy(0, 0, 0), 0);
        due("it is there", x.tear(), 1);
    }

    static void p38_lay_80Parts() {
        FrameProver x = Machines.filled(Machines.twoBits());
        due("lay", x.lay(1, 0), 80);
        due("the last", x.row(79), 1);
        due("no more", x.row(80), BEYOND);
    }

    static void p38_lay_theLastStateWithTheLastChoices() {
        due("lay", Machines.twoBits().lay(3, 1), 5);
        FrameProver x = new FrameProver();
        for (int i = 0; i < 8; i++) {
            x.bit(false, false);
        }
        for (int i = 0; i < 4; i++) {
            x.input();
        }
        due("lay", x.lay(255, 15), 12);
        rowIs(x, 1, 1, 1, 1, 1, 1, 1, 1, 1, 1, 1, 1);
        due("256", x.lay(256, 0), BEYOND);
        due("16", x.lay(0, 16), BEYOND);
    }

    static void p38_lay_leavesTheRunAndTheProof() {
        FrameProver x = Machines.busy();
        x.lay(3, 0);
        due("the run", x.value(0, 0), 1);
        due("the run", x.value(2, 0), 0);
        due("frames", x.frames(), 2);
    }

    static void p38_lay_beyond_theStateBehindTheLast() {
        refused(BEYOND, RowEdges::laid, x -> x.lay(4, 0));
    }

    static void p38_lay_beyond_stateBelow0() {
        refused(BEYOND, RowEdges::laid, x -> x.lay(-1, 0));
        refused(BEYOND, RowEdges::laid, x -> x.lay(LOW, 0));
    }

    static void p38_lay_beyond_choicesBehindTheLast() {
        refused(BEYOND, RowEdges::laid, x -> x.lay(0, 2));
    }

    static void p38_lay_beyond_choicesBelow0() {
        refused(BEYOND, RowEdges::laid, x -> x.lay(0, -1));
    }

    static void p38_lay_beyond_farAway() {
        refused(BEYOND, RowEdges::laid, x -> x.lay(TOP, 0));
        refused(BEYOND, RowEdges::laid, x -> x.lay(0, TOP));
    }

    static void p38_lay_beyond_theMissingRowStaysMissing() {
        refused(BEYOND, Machines::twoBits, x -> x.lay(4, 0));
    }

    // ---- 39 tear

    static void p39_tear_missingAtFirst() {
        due("tear", Machines.twoBits().tear(), 0);
    }

    static void p39_tear_1IfItWasThere_0Then() {
        FrameProver x = laid();
        due("tear", x.tear(), 1);
        due("tear", x.tear(), 0);
        due("row", x.row(0), MISSING);
    }

    static void p39_tear_andLaidAgain() {
        FrameProver x = laid();
        x.tear();
        due("lay", x.lay(2, 0), 5);
        rowIs(x, 0, 1, 0, 0, 0);
        due("tear", x.tear(), 1);
    }

    static void p39_tear_takesWhatWasCopied() {
        FrameProver x = laid();
        x.copy(0, 1, 1);
        x.tear();
        x.lay(1, 1);
        rowIs(x, 1, 0, 1, 0, 0);
    }

    // ---- 40 row

    static void p40_row_theFirstAndTheLast() {
        FrameProver x = laid();
        due("first", x.row(0), 1);
        due("last", x.row(4), 0);
        x.lay(0, 0);
        due("first", x.row(0), 0);
        due("last", x.row(4), 1);
    }

    static void p40_row_asLongAsItWasLaid_thoughPartsCame() {
        FrameProver x = laid();
        x.gate(0, 0);
        x.bit(true, true);
        rowIs(x, 1, 0, 1, 0, 0);
    }

    static void p40_row_missing_atFirst() {
        refused(MISSING, Machines::twoBits, x -> x.row(0));
    }

    static void p40_row_missing_torn() {
        refused(MISSING, () -> {
            FrameProver x = laid();
            x.tear();
            return x;
        }, x -> x.row(0));
    }

    static void p40_row_beyond_behindTheLast() {
        refused(BEYOND, RowEdges::laid, x -> x.row(5));
    }

    static void p40_row_beyond_80OfAFullMachine() {
        refused(BEYOND, () -> {
            FrameProver x = Machines.filled(Machines.twoBits());
            x.lay(0, 0);
            return x;
        }, x -> x.row(80));
    }

    static void p40_row_beyond_below0() {
        refused(BEYOND, RowEdges::laid, x -> x.row(-1));
        refused(BEYOND, RowEdges::laid, x -> x.row(LOW));
    }

    static void p40_row_beyond_farAway() {
        refused(BEYOND, RowEdges::laid, x -> x.row(TOP));
    }

    static void p40_row_missingComesBeforeBeyond() {
        refused(MISSING, Machines::twoBits, x -> x.row(5));
        refused(MISSING, Machines::twoBits, x -> x.row(-1));
    }

    // ---- 41 copy

    static void p41_copy_fromPlaceIToPlaceJ() {
        FrameProver x = laid();
        due("copy", x.copy(0, 3, 2), 2);
        rowIs(x, 1, 0, 1, 1, 0);
    }

    static void p41_copy_asTheyWere_upwards() {
        FrameProver x = laid();
        due("copy", x.copy(0, 1, 4), 4);
        rowIs(x, 1, 1, 0, 1, 0);
    }

    static void p41_copy_asTheyWere_downwards() {
        FrameProver x = laid();
        due("copy", x.copy(1, 0, 4), 4);
        rowIs(x, 0, 1, 0, 0, 0);
    }

    static void p41_copy_theWholeRowToItself() {
        FrameProver x = laid();
        due("copy", x.copy(0, 0, 5), 5);
        rowIs(x, 1, 0, 1, 0, 0);
    }

    static void p41_copy_ofNoneAnywhereInTheRow_atItsEndToo() {
        FrameProver x = laid();
        due("start", x.copy(0, 0, 0), 0);
        due("end", x.copy(5, 5, 0), 0);
        rowIs(x, 1, 0, 1, 0, 0);
    }

    static void p41_copy_theLastPlaces() {
        FrameProver x = laid();
        due("from", x.copy(4, 2, 1), 1);
        rowIs(x, 1, 0, 0, 0, 0);
        due("to", x.copy(0, 4, 1), 1);
        rowIs(x, 1, 0, 0, 0, 1);
    }

    static void p41_copy_of80() {
        FrameProver x = Machines.filled(Machines.twoBits());
        x.lay(1, 0);
        due("copy", x.copy(0, 1, 79), 79);
        due("the last", x.row(79), 1);
        due("all", x.copy(0, 0, 80), 80);
        due("81", x.copy(0, 0, 81), COPY);
    }

    static void p41_copy_missing() {
        refused(MISSING, Machines::twoBits, x -> x.copy(0, 0, 0));
    }

    static void p41_copy_below_nBelow0() {
        refused(BELOW, RowEdges::laid, x -> x.copy(0, 0, -1));
        refused(BELOW, RowEdges::laid, x -> x.copy(0, 0, LOW));
    }

    static void p41_copy_copy_iBelow0() {
        refused(COPY, RowEdges::laid, x -> x.copy(-1, 0, 1));
        refused(COPY, RowEdges::laid, x -> x.copy(-1, 0, 0));
        refused(COPY, RowEdges::laid, x -> x.copy(LOW, 0, 1));
    }

    static void p41_copy_copy_jBelow0() {
        refused(COPY, RowEdges::laid, x -> x.copy(0, -1, 1));
        refused(COPY, RowEdges::laid, x -> x.copy(0, -1, 0));
        refused(COPY, RowEdges::laid, x -> x.copy(0, LOW, 1));
    }

    static void p41_copy_copy_iAndNAboveHowManyThereAre() {
        refused(COPY, RowEdges::laid, x -> x.copy(1, 0, 5));
        refused(COPY, RowEdges::laid, x -> x.copy(5, 0, 1));
        refused(COPY, RowEdges::laid, x -> x.copy(6, 0, 0));
    }

    static void p41_copy_copy_jAndNAboveHowManyThereAre() {
        refused(COPY, RowEdges::laid, x -> x.copy(0, 1, 5));
        refused(COPY, RowEdges::laid, x -> x.copy(0, 5, 1));
        refused(COPY, RowEdges::laid, x -> x.copy(0, 6, 0));
    }

    static void p41_copy_copy_nAloneIsAbove() {
        refused(COPY, RowEdges::laid, x -> x.copy(0, 0, 6));
    }

    static void p41_copy_copy_sumsThatWrapAround() {
        refused(COPY, RowEdges::laid, x -> x.copy(TOP, 0, 1));
        refused(COPY, RowEdges::laid, x -> x.copy(0, TOP, 1));
        refused(COPY, RowEdges::laid, x -> x.copy(1, 0, TOP));
        refused(COPY, RowEdges::laid, x -> x.copy(0, 1, TOP));
        refused(COPY, RowEdges::laid, x -> x.copy(TOP, TOP, TOP));
    }

    static void p41_copy_missingComesBeforeBelow() {
        refused(MISSING, Machines::twoBits, x -> x.copy(0, 0, -1));
    }

    static void p41_copy_missingComesBeforeCopy() {
        refused(MISSING, Machines::twoBits, x -> x.copy(-1, 0, 9));
    }

    static void p41_copy_belowComesBeforeCopy() {
        refused(BELOW, RowEdges::laid, x -> x.copy(-1, 9, -1));
    }

    // ---- 42 status

    static void p42_status_0AtFirst() {
        FrameProver x = new FrameProver();
        for (int by = -8; by <= -2; by++) {
            due("status(" + by + ")", x.status(by), 0);
        }
    }

    static void p42_status_theFirstAndTheLastNumberAreTaken() {
        FrameProver x = new FrameProver();
        x.way();
        for (int i = 0; i < 6; i++) {
            x.input();
        }
        due("-2", x.status(-2), 1);
        due("-8", x.status(-8), 2);
    }

    static void p42_status_no_minus1() {
        refused(NO, Machines::busy, x -> x.status(-1));
    }

    static void p42_status_no_minus9() {
        refused(NO, Machines::busy, x -> x.status(-9));
    }

    static void p42_status_no_0AndAbove() {
        refused(NO, Machines::busy, x -> x.status(0));
        refused(NO, Machines::busy, x -> x.status(2));
    }

    static void p42_status_no_farAway() {
        refused(NO, Machines::busy, x -> x.status(TOP));
        refused(NO, Machines::busy, x -> x.status(LOW));
    }

    static void p42_status_countsItsOwnRefusals() {
        FrameProver x = new FrameProver();
        x.status(0);
        x.status(0);
        due("two", x.status(NO), 2);
        due("a status that is answered is none", x.status(NO), 2);
    }

    static void p42_status_outlivesAChangeOfTheMachine() {
        FrameProver x = new FrameProver();
        x.way();
        x.bit(false, false);
        x.bad(0);
        due("one", x.status(MISSING), 1);
    }

    static void p42_status_aCallIsRefusedOnce_byTheFirstThatApplies() {
        FrameProver x = Machines.twoBits();
        x.copy(-1, -1, -1);
        due("MISSING", x.status(MISSING), 1);
        due("BELOW", x.status(BELOW), 0);
        due("COPY", x.status(COPY), 0);
    }
}
