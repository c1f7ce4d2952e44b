/** Promises 1 to 10: the machine. */
final class MachineEdges extends Edges {

    // ---- 1 A new object

    static void p1_new_hasNoParts() {
        FrameProver x = new FrameProver();
        for (int what = 0; what <= 7; what++) {
            due("count(" + what + ")", x.count(what), 0);
        }
        due("part(0, 0)", x.part(0, 0), BEYOND);
        due("part(79, 0)", x.part(79, 0), BEYOND);
    }

    static void p1_new_nothingIsToldOfBad() {
        FrameProver x = new FrameProver();
        due("cone", x.cone(), MISSING);
        due("bad", x.bad(NONE), NONE);
    }

    static void p1_new_nothingIsProvedListedLaidOrRefused() {
        FrameProver x = new FrameProver();
        for (int by = -8; by <= -2; by++) {
            due("status(" + by + ")", x.status(by), 0);
        }
        due("frames", x.frames(), 0);
        due("way", x.way(), MISSING);
        due("take", x.take(), MISSING);
        due("trouble", x.trouble(0, 0), NONE);
        due("clear", x.clear(), 0);
        due("fails(0)", x.fails(0), NONE);
        due("fails(1)", x.fails(1), NONE);
        due("tear", x.tear(), 0);
    }

    static void p1_new_oneObjectHasNothingOfAnother() {
        FrameProver x = Machines.ended();
        FrameProver y = new FrameProver();
        due("the new one", y.count(0), 0);
        due("the new one", y.frames(), 0);
        y.bit(true, false);
        due("the old one", x.count(0), 5);
        due("the old one", x.way(), 2);
    }

    static void p1_new_aStateWithoutPartsIs0_withChoices0Alone() {
        FrameProver x = new FrameProver();
        due("at(0, 0)", x.at(0, 0, 0), 0);
        due("at(1, 0)", x.at(1, 0, 0), BEYOND);
        due("at(0, 1)", x.at(0, 1, 0), BEYOND);
        due("step(0)", x.step(0), 0);
        due("step(1)", x.step(1), BEYOND);
        due("live", x.live(), 0);
    }

    // ---- 2 bit

    static void p2_bit_answersItsPart_theFirstIs0() {
        FrameProver x = new FrameProver();
        due("bit", x.bit(false, false), 0);
        due("bit", x.bit(true, true), 1);
    }

    static void p2_bit_trueIs1() {
        FrameProver x = new FrameProver();
        x.bit(true, false);
        x.bit(false, true);
        x.bit(true, true);
        x.bit(false, false);
        due("start", x.start(), 5);
    }

    static void p2_bit_heldOrNot() {
        FrameProver x = new FrameProver();
        x.bit(true, false);
        x.bit(true, true);
        due("not held", x.part(0, 0), 1);
        due("held", x.part(1, 0), 2);
    }

    static void p2_bit_theEighthIsTaken() {
        FrameProver x = new FrameProver();
        for (int i = 0; i < 8; i++) {
            due("bit", x.bit(true, false), i);
        }
        due("start", x.start(), 255);
    }

    private static FrameProver eightBits() {
        FrameProver x = new FrameProver();
        for (int i = 0; i < 8; i++) {
            x.bit(i % 2 == 0, i % 3 == 0);
        }
        x.bad(0);
        return x;
    }

    static void p2_bit_full_theNinth() {
        refused(FULL, MachineEdges::eightBits, x -> x.bit(true, false));
    }

    static void p2_bit_full_theNinthIfItIsHeld() {
        refused(FULL, MachineEdges::eightBits, x -> x.bit(true, true));
    }

    static void p2_bit_full_eightHeldOnesLeaveNoRoomForAnother() {
        refused(FULL, () -> {
            FrameProver x = new FrameProver();
            for (int i = 0; i < 8; i++) {
                x.bit(true, true);
            }
            return x;
        }, x -> x.bit(false, false));
    }

    static void p2_bit_mayBeThe80thPart() {
        FrameProver x = new FrameProver();
        x.input();
        while (x.count(0) < 79) {
            x.gate(0, 0);
        }
        due("bit", x.bit(true, false), 79);
        due("its sign", x.value(158, 0), 1);
        due("its denial", x.value(159, 0), 0);
        due("start", x.start(), 1);
        due("next", x.next(79, 0), 158);
        due("step", x.step(0), 0);
    }

    static void p2_bit_full_itWouldBeThe81stPart() {
        refused(FULL, () -> Machines.filled(Machines.busy()), x -> x.bit(false, false));
    }

    static void p2_bit_full_heldItWouldBeThe81stPart() {
        refused(FULL, () -> Machines.filled(Machines.busy()), x -> x.bit(false, true));
    }

    static void p2_bit_full_bothPartsAndBits() {
        refused(FULL, () -> Machines.filled(eightBits()), x -> x.bit(false, false));
    }

    // ---- 3 input

    static void p3_input_answersItsPart() {
        FrameProver x = new FrameProver();
        x.bit(false, false);
        due("input", x.input(), 1);
        due("input", x.input(), 2);
    }

    static void p3_input_theFourthIsTaken() {
        FrameProver x = new FrameProver();
        for (int i = 0; i < 4; i++) {
            due("input", x.input(), i);
        }
        due("with all choices", x.value(6, 15), 1);
        due("with all but the last", x.value(6, 7), 0);
    }

    static void p3_input_full_theFifth() {
        refused(FULL, () -> {
            FrameProver x = new FrameProver();
            x.bit(true, false);
            for (int i = 0; i < 4; i++) {
                x.input();
            }
            x.bad(0);
            x.prove(1);
            return x;
        }, x -> x.input());
    }

    static void p3_input_mayBeThe80thPart() {
        FrameProver x = new FrameProver();
        x.bit(false, false);
        while (x.count(0) < 79) {
            x.gate(0, 0);
        }
        due("input", x.input(), 79);
        due("its sign", x.value(158, 1), 1);
    }

    static void p3_input_full_itWouldBeThe81stPart() {
        refused(FULL, () -> Machines.filled(Machines.busy()), x -> x.input());
    }

    // ---- 4 gate

    static void p4_gate_answersItsPart() {
        FrameProver x = new FrameProver();
        x.bit(false, false);
        due("gate", x.gate(0, 1), 1);
        due("gate", x.gate(3, 0), 2);
    }

    static void p4_gate_theLastSignBeforeItIsTaken() {
        FrameProver x = Machines.twoBits();
        due("x", x.gate(9, 0), 5);
        due("y", x.gate(0, 11), 6);
        due("the first", x.gate(0, 0), 7);
    }

    static void p4_gate_beyond_xIsItsOwnSign() {
        refused(BEYOND, Machines::busy, x -> x.gate(10, 0));
    }

    static void p4_gate_beyond_yIsItsOwnSign() {
        refused(BEYOND, Machines::busy, x -> x.gate(0, 10));
    }

    static void p4_gate_beyond_itsOwnDenial() {
        refused(BEYOND, Machines::busy, x -> x.gate(0, 11));
    }

    static void p4_gate_beyond_xBelow0() {
        refused(BEYOND, Machines::busy, x -> x.gate(-1, 0));
    }

    static void p4_gate_beyond_yBelow0() {
        refused(BEYOND, Machines::busy, x -> x.gate(0, -1));
    }

    static void p4_gate_beyond_farAway() {
        refused(BEYOND, Machines::busy, x -> x.gate(TOP, 0));
        refused(BEYOND, Machines::busy, x -> x.gate(0, LOW));
    }

    static void p4_gate_beyond_noPartsAtAll() {
        refused(BEYOND, FrameProver::new, x -> x.gate(0, 0));
    }

    static void p4_gate_the80thPartIsTaken() {
        FrameProver x = new FrameProver();
        x.bit(true, false);
        while (x.count(0) < 79) {
            x.gate(0, 0);
        }
        due("gate", x.gate(157, 157), 79);
        due("its value", x.value(158, 0), 0);
    }

    static void p4_gate_full_the81stPart() {
        refused(FULL, () -> Machines.filled(Machines.busy()), x -> x.gate(159, 0));
    }

    static void p4_gate_beyondComesBeforeFull_x() {
        refused(BEYOND, () -> Machines.filled(Machines.busy()), x -> x.gate(160, 0));
    }

    static void p4_gate_beyondComesBeforeFull_y() {
        refused(BEYOND, () -> Machines.filled(Machines.busy()), x -> x.gate(0, 160));
    }

    // ---- 5 next

    static void p5_next_answersTheSignBefore_itsOwnAtFirst() {
        FrameProver x = Machines.busy();
        x.bit(false, false);
        due("its own", x.next(5, 7), 10);
        due("then", x.next(5, 11), 7);
        due("then", x.next(5, 0), 11);
    }

    static void p5_next_theLastBitAndTheLastSignAreTaken() {
        FrameProver x = Machines.twoBits();
        x.bit(false, false);
        due("next", x.next(5, 11), 10);
        due("it is told", x.part(5, 1), 11);
    }

    static void p5_next_the160thSignIsTaken() {
        FrameProver x = Machines.filled(Machines.twoBits());
        due("next", x.next(0, 159), 3);
        due("it is told", x.part(0, 1), 159);
    }

    static void p5_next_beyond_thePartBehindTheLast() {
        refused(BEYOND, Machines::busy, x -> x.next(5, 0));
    }

    static void p5_next_beyond_part80OfAFullMachine() {
        refused(BEYOND, () -> Machines.filled(Machines.busy()), x -> x.next(80, 0));
    }

    static void p5_next_beyond_partBelow0() {
        refused(BEYOND, Machines::busy, x -> x.next(-1, 0));
        refused(BEYOND, Machines::busy, x -> x.next(LOW, 0));
    }

    static void p5_next_beyond_theSignBehindTheLast() {
        refused(BEYOND, Machines::busy, x -> x.next(0, 10));
    }

    static void p5_next_beyond_sign160OfAFullMachine() {
        refused(BEYOND, () -> Machines.filled(Machines.busy()), x -> x.next(0, 160));
    }

    static void p5_next_beyond_signBelow0() {
        refused(BEYOND, Machines::busy, x -> x.next(0, NONE));
        refused(BEYOND, Machines::busy, x -> x.next(0, LOW));
    }

    static void p5_next_beyond_signFarAway() {
        refused(BEYOND, Machines::busy, x -> x.next(0, TOP));
    }

    static void p5_next_kind_anInput() {
        refused(KIND, Machines::busy, x -> x.next(2, 0));
    }

    static void p5_next_kind_aGate() {
        refused(KIND, Machines::busy, x -> x.next(3, 0));
    }

    static void p5_next_kind_aHeldBit() {
        refused(KIND, () -> {
            FrameProver x = Machines.twoBits();
            x.bit(true, true);
            return x;
        }, x -> x.next(5, 0));
    }

    static void p5_next_kind_aHeldBitToItsOwnSign() {
        refused(KIND, () -> {
            FrameProver x = Machines.twoBits();
            x.bit(true, true);
            return x;
        }, x -> x.next(5, 10));
    }

    static void p5_next_beyondComesBeforeKind() {
        refused(BEYOND, Machines::busy, x -> x.next(2, 10));
        refused(BEYOND, Machines::busy, x -> x.next(3, -1));
    }

    // ---- 6 bad

    static void p6_bad_answersTheSignBefore_noneAtFirst() {
        FrameProver x = new FrameProver();
        x.bit(false, false);
        due("none", x.bad(1), NONE);
        due("1", x.bad(0), 1);
        due("0", x.bad(0), 0);
    }

    static void p6_bad_noneTakesItAway() {
        FrameProver x = Machines.twoBits();
        due("the one before", x.bad(NONE), 6);
        due("none", x.bad(NONE), NONE);
        due("shortest", x.shortest(), NONE);
    }

    static void p6_bad_noneIsTakenWithoutParts() {
        due("none", new FrameProver().bad(NONE), NONE);
    }

    static void p6_bad_theFirstAndTheLastSignAreTaken() {
        FrameProver x = Machines.filled(Machines.twoBits());
        due("the last", x.bad(159), 6);
        due("the first", x.bad(0), 159);
        due("it", x.bad(NONE), 0);
    }

    static void p6_bad_beyond_theSignBehindTheLast() {
        refused(BEYOND, Machines::busy, x -> x.bad(10));
    }

    static void p6_bad_beyond_sign160OfAFullMachine() {
        refused(BEYOND, () -> Machines.filled(Machines.busy()), x -> x.bad(160));
    }

    static void p6_bad_beyond_belowNone() {
        refused(BEYOND, Machines::busy, x -> x.bad(-2));
        refused(BEYOND, Machines::busy, x -> x.bad(LOW));
    }

    static void p6_bad_beyond_farAway() {
        refused(BEYOND, Machines::busy, x -> x.bad(TOP));
    }

    static void p6_bad_beyond_withoutParts() {
        refused(BEYOND, FrameProver::new, x -> x.bad(0));
    }

    // ---- 7 assume

    static void p7_assume_answersHowMany_theFourthIsTaken() {
        FrameProver x = Machines.twoBits();
        for (int i = 1; i <= 4; i++) {
            due("assume", x.assume(1), i);
        }
    }

    static void p7_assume_theLastSignIsTaken() {
        due("sign 9", Machines.twoBits().assume(9), 1);
        due("sign 159", Machines.filled(Machines.twoBits()).assume(159), 1);
    }

    static void p7_assume_full_theFifth() {
        refused(FULL, Machines::fullOfSigns, x -> x.assume(1));
    }

    static void p7_assume_beyond_theSignBehindTheLast() {
        refused(BEYOND, Machines::busy, x -> x.assume(10));
    }

    static void p7_assume_beyond_below0() {
        refused(BEYOND, Machines::busy, x -> x.assume(NONE));
        refused(BEYOND, Machines::busy, x -> x.assume(LOW));
    }

    static void p7_assume_beyond_farAway() {
        refused(BEYOND, Machines::busy, x -> x.assume(TOP));
    }

    static void p7_assume_beyond_withoutParts() {
        refused(BEYOND, FrameProver::new, x -> x.assume(0));
    }

    static void p7_assume_beyondComesBeforeFull() {
        refused(BEYOND, Machines::fullOfSigns, x -> x.assume(2));
        refused(BEYOND, Machines::fullOfSigns, x -> x.assume(-1));
    }

    // ---- 8 fair

    static void p8_fair_answersHowMany_theThirdIsTaken() {
        FrameProver x = Machines.twoBits();
        for (int i = 1; i <= 3; i++) {
            due("fair", x.fair(1), i);
        }
    }

    static void p8_fair_theLastSignIsTaken() {
        due("sign 9", Machines.twoBits().fair(9), 1);
        due("sign 159", Machines.filled(Machines.twoBits()).fair(159), 1);
    }

    static void p8_fair_full_theFourth() {
        refused(FULL, Machines::fullOfSigns, x -> x.fair(1));
    }

    static void p8_fair_beyond_theSignBehindTheLast() {
        refused(BEYOND, Machines::busy, x -> x.fair(10));
    }

    static void p8_fair_beyond_below0() {
        refused(BEYOND, Machines::busy, x -> x.fair(NONE));
        refused(BEYOND, Machines::busy, x -> x.fair(LOW));
    }

    static void p8_fair_beyond_farAway() {
        refused(BEYOND, Machines::busy, x -> x.fair(TOP));
    }

    static void p8_fair_beyond_withoutParts() {
        refused(BEYOND, FrameProver::new, x -> x.fair(0));
    }

    static void p8_fair_beyondComesBeforeFull() {
        refused(BEYOND, Machines::fullOfSigns, x -> x.fair(2));
        refused(BEYOND, Machines::fullOfSigns, x -> x.fair(-1));
    }

    static void p8_fair_andAssumptionsHaveRoomOfTheirOwn() {
        FrameProver x = new FrameProver();
        x.bit(true, false);
        for (int i = 0; i < 4; i++) {
            x.assume(0);
        }
        due("fair", x.fair(0), 1);
        due("four", x.count(4), 4);
        due("one", x.count(5), 1);
    }

    // ---- 9 part

    private static FrameProver oneOfEach() {
        FrameProver x = new FrameProver();
        x.bit(false, false);
        x.bit(false, true);
        x.input();
        x.gate(3, 4);
        return x;
    }

    static void p9_part_kinds() {
        FrameProver x = oneOfEach();
        due("bit", x.part(0, 0), 1);
        due("held", x.part(1, 0), 2);
        due("input", x.part(2, 0), 3);
        due("gate", x.part(3, 0), 0);
    }

    static void p9_part_signsOfAGate() {
        FrameProver x = oneOfEach();
        due("x", x.part(3, 1), 3);
        due("y", x.part(3, 2), 4);
    }

    static void p9_part_nextOfABitAndOfAHeldOne() {
        FrameProver x = oneOfEach();
        due("its own", x.part(0, 1), 0);
        due("its own", x.part(1, 1), 2);
        x.next(0, 7);
        due("as told", x.part(0, 1), 7);
    }

    static void p9_part_noneWhereItHasNoneSuch() {
        FrameProver x = oneOfEach();
        due("bit, second", x.part(0, 2), NONE);
        due("held, second", x.part(1, 2), NONE);
        due("input, first", x.part(2, 1), NONE);
        due("input, second", x.part(2, 2), NONE);
    }

    static void p9_part_theLastPartIsTold_number79Too() {
        FrameProver x = Machines.filled(oneOfEach());
        due("part 79", x.part(79, 0), 0);
        due("part 79", x.part(79, 1), 0);
    }

    static void p9_part_beyond_behindTheLast() {
        refused(BEYOND, Machines::busy, x -> x.part(5, 0));
    }

    static void p9_part_beyond_80OfAFullMachine() {
        refused(BEYOND, () -> Machines.filled(Machines.busy()), x -> x.part(80, 0));
    }

    static void p9_part_beyond_below0() {
        refused(BEYOND, Machines::busy, x -> x.part(-1, 0));
        refused(BEYOND, Machines::busy, x -> x.part(LOW, 1));
    }

    static void p9_part_beyond_farAway() {
        refused(BEYOND, Machines::busy, x -> x.part(TOP, 0));
    }

    static void p9_part_no_whatIs3() {
        refused(NO, Machines::busy, x -> x.part(0, 3));
    }

    static void p9_part_no_whatBelow0() {
        refused(NO, Machines::busy, x -> x.part(0, -1));
    }

    static void p9_part_no_whateverTheKind() {
        for (int part = 0; part < 4; part++) {
            int of = part;
            refused(NO, MachineEdges::oneOfEach, x -> x.part(of, 3));
        }
    }

    static void p9_part_beyondComesBeforeNo() {
        refused(BEYOND, Machines::busy, x -> x.part(5, 3));
    }

    // ---- 10 count

    static void p10_count_eachKind() {
        FrameProver x = oneOfEach();
        x.gate(0, 0);
        x.gate(0, 0);
        x.input();
        x.assume(0);
        x.fair(0);
        x.fair(0);
        int[] due = {7, 2, 2, 3, 1, 2, 0, 0};
        for (int what = 0; what <= 7; what++) {
            due("count(" + what + ")", x.count(what), due[what]);
        }
    }

    static void p10_count_ofAFullMachine() {
        FrameProver x = new FrameProver();
        for (int i = 0; i < 8; i++) {
            x.bit(true, i < 3);
        }
        for (int i = 0; i < 4; i++) {
            x.input();
        }
        Machines.filled(x);
        for (int i = 0; i < 4; i++) {
            x.assume(0);
            x.fair(0);
        }
        for (int i = 0; i < 101; i++) {
            x.list(1, 0);
        }
        int[] due = {80, 8, 4, 68, 4, 3, 0, 100};
        for (int what = 0; what <= 7; what++) {
            due("count(" + what + ")", x.count(what), due[what]);
        }
    }

    static void p10_count_looksInAll_overSeveralCalls() {
        FrameProver x = Machines.twoBits();
        x.prove(2);
        due("two", x.count(6), 2);
        x.prove(1);
        due("three", x.count(6), 3);
        x.prove(5000);
        due("four", x.count(6), 4);
    }

    static void p10_count_noLooksSinceNothingWasProved() {
        FrameProver x = Machines.ended();
        due("before", x.count(6), 4);
        x.fair(0);
        due("none", x.count(6), 0);
        x.prove(1);
        due("one", x.count(6), 1);
    }

    static void p10_count_whatHasEndedLooksNoMore() {
        FrameProver x = Machines.ended();
        x.prove(5000);
        due("four", x.count(6), 4);
    }

    static void p10_count_no_8() {
        refused(NO, Machines::busy, x -> x.count(8));
    }

    static void p10_count_no_below0() {
        refused(NO, Machines::busy, x -> x.count(-1));
    }

    static void p10_count_no_farAway() {
        refused(NO, Machines::busy, x -> x.count(TOP));
        refused(NO, Machines::busy, x -> x.count(LOW));
    }
}
