/** Promises 31 to 37: the list. */
final class ListEdges extends Edges {

    private static FrameProver full() {
        FrameProver x = Machines.listOf(100);
        x.judge();
        return x;
    }

    // ---- 31 list

    static void p31_list_answersHowMany() {
        FrameProver x = Machines.twoBits();
        due("list", x.list(3, 3), 1);
        due("list", x.list(3, 2), 2);
    }

    static void p31_list_theSameClauseAgainIsOneMore() {
        FrameProver x = Machines.twoBits();
        x.list(3, 3);
        due("list", x.list(3, 3), 2);
        due("count", x.count(7), 2);
    }

    static void p31_list_theHundredthIsTaken() {
        FrameProver x = Machines.listOf(99);
        due("list", x.list(2, 0), 100);
        due("listed", x.listed(99, false), 2);
    }

    static void p31_list_full_the101st() {
        refused(FULL, ListEdges::full, x -> x.list(3, 3));
    }

    static void p31_list_theWholeMaskAndNoMaskAreTaken() {
        FrameProver x = Machines.twoBits();
        due("3", x.list(3, 0), 1);
        due("0", x.list(0, 0), 2);
    }

    static void p31_list_no_mask() {
        refused(NO, Machines::busy, x -> x.list(4, 0));
        refused(NO, Machines::busy, x -> x.list(4, 4));
        refused(NO, Machines::busy, x -> x.list(-1, 0));
        refused(NO, Machines::busy, x -> x.list(TOP, 0));
        refused(NO, Machines::busy, x -> x.list(LOW, LOW));
    }

    static void p31_list_no_valuesThatMaskHasNot() {
        refused(NO, Machines::busy, x -> x.list(0, 1));
        refused(NO, Machines::busy, x -> x.list(1, 2));
        refused(NO, Machines::busy, x -> x.list(2, 3));
        refused(NO, Machines::busy, x -> x.list(3, 4));
        refused(NO, Machines::busy, x -> x.list(3, -1));
    }

    static void p31_list_noComesBeforeFull() {
        refused(NO, ListEdges::full, x -> x.list(1, 2));
        refused(NO, ListEdges::full, x -> x.list(4, 0));
    }

    static void p31_list_aBitThatComesMakesRoomForItsMask() {
        FrameProver x = Machines.twoBits();
        due("before", x.list(4, 4), NO);
        x.bit(false, true);
        due("after", x.list(4, 4), 1);
    }

    // ---- 32 forge

    private static int cube(FrameProver x, int i) {
        return x.listed(i, false) * 256 + x.listed(i, true);
    }

    static void p32_forge_turnsABitOfTheValues() {
        FrameProver x = Machines.listOf(2);
        due("forge", x.forge(1, 0, false), 1);
        due("mask 3, values 2", cube(x, 1), 3 * 256 + 2);
        due("forge", x.forge(1, 0, false), 1);
        due("mask 3, values 3", cube(x, 1), 3 * 256 + 3);
        due("the other stays", cube(x, 0), 3 * 256 + 3);
    }

    static void p32_forge_aBitOfTheMaskGoesWithItsValue() {
        FrameProver x = Machines.listOf(1);
        due("forge", x.forge(0, 1, true), 1);
        due("mask 1, values 1", cube(x, 0), 256 + 1);
    }

    static void p32_forge_aBitOfTheMaskComesWithValue0() {
        FrameProver x = Machines.listOf(1);
        x.forge(0, 1, true);
        due("forge", x.forge(0, 1, true), 1);
        due("mask 3, values 1", cube(x, 0), 3 * 256 + 1);
    }

    static void p32_forge_theLastBitOfTheMaskMayGo() {
        FrameProver x = Machines.listOf(1);
        x.forge(0, 0, true);
        due("forge", x.forge(0, 1, true), 1);
        due("mask 0", cube(x, 0), 0);
        due("all states are kept out", x.judge(), 1);
    }

    static void p32_forge_bit7OfEight() {
        FrameProver x = Machines.counter(8, 255);
        x.list(255, 255);
        due("values", x.forge(0, 7, false), 1);
        due("127", x.listed(0, true), 127);
        due("mask", x.forge(0, 7, true), 1);
        due("127", x.listed(0, false), 127);
    }

    static void p32_forge_clause99() {
        FrameProver x = full();
        due("forge", x.forge(99, 0, true), 1);
        due("mask", x.listed(99, false), 2);
        due("the one before", x.listed(98, false), 3);
    }

    static void p32_forge_theJudgeSeesIt() {
        FrameProver x = Machines.listOf(1);
        due("1 leads to 3", x.judge(), 2);
        x.forge(0, 0, false);
        due("3 is left in", x.judge(), 3);
        x.forge(0, 1, false);
        due("0 is kept out", x.judge(), 1);
    }

    static void p32_forge_beyond_iBehindTheLast() {
        refused(BEYOND, Machines::busy, x -> x.forge(2, 0, true));
        refused(BEYOND, ListEdges::full, x -> x.forge(100, 0, true));
    }

    static void p32_forge_beyond_anEmptyList() {
        refused(BEYOND, Machines::twoBits, x -> x.forge(0, 0, true));
    }

    static void p32_forge_beyond_iBelow0() {
        refused(BEYOND, Machines::busy, x -> x.forge(-1, 0, true));
        refused(BEYOND, Machines::busy, x -> x.forge(LOW, 0, true));
    }

    static void p32_forge_beyond_noSuchBitOfAState() {
        refused(BEYOND, Machines::busy, x -> x.forge(0, 2, true));
        refused(BEYOND, Machines::busy, x -> x.forge(0, 2, false));
        refused(BEYOND, Machines::busy, x -> x.forge(0, 7, true));
    }

    static void p32_forge_beyond_bit8OfEight() {
        refused(BEYOND, () -> {
            FrameProver x = Machines.counter(8, 255);
            x.list(255, 255);
            return x;
        }, x -> x.forge(0, 8, true));
    }

    static void p32_forge_beyond_bitBelow0() {
        refused(BEYOND, Machines::busy, x -> x.forge(0, -1, true));
        refused(BEYOND, Machines::busy, x -> x.forge(0, LOW, false));
    }

    static void p32_forge_beyond_farAway() {
        refused(BEYOND, Machines::busy, x -> x.forge(TOP, 0, true));
        refused(BEYOND, Machines::busy, x -> x.forge(0, TOP, true));
        refused(BEYOND, Machines::busy, x -> x.forge(0, 32, true));
        refused(BEYOND, Machines::busy, x -> x.forge(0, 33, false));
    }

    static void p32_forge_no_theValueOfABitThatIsNotInTheMask() {
        refused(NO, Machines::busy, x -> x.forge(1, 0, false));
    }

    static void p32_forge_beyondComesBeforeNo() {
        refused(BEYOND, Machines::busy, x -> x.forge(1, 2, false));
        refused(BEYOND, Machines::busy, x -> x.forge(2, 0, false));
    }

    // ---- 33 clear

    static void p33_clear_howManyItHad_andItIsEmpty() {
        FrameProver x = Machines.busy();
        due("clear", x.clear(), 2);
        due("count", x.count(7), 0);
        due("listed", x.listed(0, false), BEYOND);
    }

    static void p33_clear_anEmptyListHad0() {
        FrameProver x = Machines.twoBits();
        due("clear", x.clear(), 0);
        due("clear", x.clear(), 0);
    }

    static void p33_clear_100_andThereIsRoomAgain() {
        FrameProver x = full();
        due("clear", x.clear(), 100);
        due("list", x.list(3, 3), 1);
    }

    static void p33_clear_keepsNothingOut() {
        FrameProver x = Machines.twoBits();
        x.list(0, 0);
        x.clear();
        due("judge", x.judge(), 3);
    }

    static void p33_clear_leavesTheLatestJudge() {
        FrameProver x = Machines.busy();
        x.clear();
        due("fails(0)", x.fails(0), 0);
        due("fails(1)", x.fails(1), 1);
    }

    // ---- 34 judge

    static void p34_judge_anEmptyListIsAWallIfNoneIsBad() {
        FrameProver x = Machines.twoBits();
        x.bad(NONE);
        due("judge", x.judge(), 0);
        due("without parts", new FrameProver().judge(), 0);
    }

    static void p34_judge_1_theBeginningIsKeptOut() {
        FrameProver x = Machines.twoBits();
        x.list(3, 0);
        x.list(3, 3);
        due("judge", x.judge(), 1);
    }

    static void p34_judge_3_aBadOneIsLeftIn() {
        due("judge", Machines.twoBits().judge(), 3);
    }

    static void p34_judge_2_itDoesNotClose() {
        due("judge", Machines.listOf(1).judge(), 2);
    }

    static void p34_judge_0_aWall() {
        FrameProver x = Machines.laterWall();
        x.list(3, 3);
        due("judge", x.judge(), 0);
    }

    static void p34_judge_1BeforeAllOthers() {
        FrameProver x = Machines.twoBits();
        x.list(3, 0);
        due("3 is left in, and 2 leads to 0", x.judge(), 1);
    }

    static void p34_judge_3Before2() {
        FrameProver x = Machines.twoBits();
        x.list(3, 1);
        due("0 leads to 1", x.judge(), 3);
    }

    static void p34_judge_aStepByWrongChoicesDoesNotCount() {
        FrameProver x = new FrameProver();
        x.bit(false, false);
        x.input();
        x.next(0, 2);
        x.list(1, 1);
        due("open", x.judge(), 2);
        x.assume(3);
        x.list(1, 1);
        due("closed", x.judge(), 0);
    }

    static void p34_judge_withTheHundredthClause() {
        FrameProver x = Machines.graph(2, 1, 0, new int[][] {{0, 0}, {0, 0}, {0, 0}, {0, 0}}, 3);
        for (int i = 0; i < 99; i++) {
            x.list(3, 2);
        }
        due("3 is left in", x.judge(), 3);
        x.list(3, 3);
        due("a wall", x.judge(), 0);
    }

    // ---- 35 fails

    static void p35_fails_noneBeforeTheFirstJudge() {
        FrameProver x = Machines.twoBits();
        due("0", x.fails(0), NONE);
        due("1", x.fails(1), NONE);
        x.small();
        due("small is no judge", x.fails(0), NONE);
    }

    static void p35_fails_of1TheBeginning() {
        FrameProver x = Machines.twice();
        x.list(3, 1);
        due("judge", x.judge(), 1);
        due("0", x.fails(0), 1);
        due("1", x.fails(1), NONE);
    }

    static void p35_fails_of3TheLeastBadOneThatIsLeftIn() {
        FrameProver x = Machines.twice();
        due("judge", x.judge(), 3);
        due("0", x.fails(0), 2);
        due("1", x.fails(1), NONE);
        x.list(3, 2);
        due("judge", x.judge(), 3);
        due("0", x.fails(0), 3);
    }

    static void p35_fails_of2FromAndTo() {
        FrameProver x = Machines.listOf(1);
        due("judge", x.judge(), 2);
        due("0", x.fails(0), 1);
        due("1", x.fails(1), 3);
    }

    static void p35_fails_of2TheLeastToWhich_ofThoseThatAreKeptOut() {
        FrameProver x = Machines.graph(2, 1, 1, new int[][] {{0, 0}, {3, 2}, {1, 1}, {1, 1}});
        x.list(3, 0);
        x.list(3, 3);
        due("1 leads to 2, which is left in, and to 3; 0 is kept out, but not entered", x.judge(), 2);
        due("0", x.fails(0), 1);
        due("1", x.fails(1), 3);
    }

    static void p35_fails_of2ToState0() {
        FrameProver x = Machines.graph(2, 1, 1, new int[][] {{0, 0}, {2, 2}, {3, 0}, {1, 1}});
        x.list(3, 0);
        x.list(3, 3);
        due("2 leads to 0 and to 3", x.judge(), 2);
        due("0", x.fails(0), 2);
        due("1", x.fails(1), 0);
    }

    static void p35_fails_of2FromState0() {
        FrameProver x = Machines.twoBits();
        x.bad(NONE);
        x.list(3, 1);
        due("0 leads to 1", x.judge(), 2);
        due("0", x.fails(0), 0);
        due("1", x.fails(1), 1);
    }

    static void p35_fails_of3State0() {
        FrameProver x = Machines.graph(2, 1, 1, new int[][] {{0, 0}, {1, 1}, {2, 2}, {3, 3}}, 0);
        due("judge", x.judge(), 3);
        due("0", x.fails(0), 0);
        due("1", x.fails(1), NONE);
    }

    static void p35_fails_ofAWallNone() {
        FrameProver x = Machines.laterWall();
        x.judge();
        due("before", x.fails(0), 3);
        x.list(3, 3);
        due("judge", x.judge(), 0);
        due("0", x.fails(0), NONE);
        due("1", x.fails(1), NONE);
    }

    static void p35_fails_ofTheLatestJudge_notOfTheListNow() {
        FrameProver x = Machines.listOf(1);
        x.judge();
        x.list(3, 0);
        due("0", x.fails(0), 1);
        due("1", x.fails(1), 3);
        x.judge();
        due("0", x.fails(0), 0);
        due("1", x.fails(1), NONE);
    }

    static void p35_fails_no_2() {
        refused(NO, Machines::busy, x -> x.fails(2));
    }

    static void p35_fails_no_below0() {
        refused(NO, Machines::busy, x -> x.fails(-1));
    }

    static void p35_fails_no_farAway() {
        refused(NO, Machines::busy, x -> x.fails(TOP));
        refused(NO, Machines::busy, x -> x.fails(LOW));
    }

    // ---- 36 small

    static void p36_small_fromTheFirstOneOn() {
        FrameProver x = Machines.laterWall();
        x.list(3, 3);
        x.list(3, 3);
        x.list(3, 3);
        due("small", x.small(), 1);
        due("judge", x.judge(), 0);
        FrameProver y = Machines.graph(2, 1, 0, new int[][] {{0, 0}, {0, 0}, {0, 0}, {0, 0}}, 3);
        y.list(2, 2);
        y.list(1, 1);
        due("one is enough", y.small(), 1);
        due("the first one went", y.listed(0, false), 1);
    }

    static void p36_small_keepsTheOrderOfWhatIsLeft() {
        FrameProver x = Machines.graph(2, 1, 0, new int[][] {{0, 0}, {0, 0}, {0, 0}, {0, 0}}, 1, 2, 3);
        x.list(3, 3);
        x.list(3, 2);
        x.list(3, 3);
        x.list(3, 1);
        due("small", x.small(), 3);
        int[] due = {2, 3, 1};
        for (int i = 0; i < 3; i++) {
            due("values", x.listed(i, true), due[i]);
        }
    }

    static void p36_small_nothingCanBeTaken() {
        FrameProver x = Machines.laterWall();
        x.list(3, 3);
        due("small", x.small(), 1);
        due("small", x.small(), 1);
    }

    static void p36_small_allAreTaken() {
        FrameProver x = Machines.laterWall();
        x.bad(NONE);
        x.list(3, 3);
        x.list(3, 3);
        due("small", x.small(), 0);
        due("count", x.count(7), 0);
    }

    static void p36_small_anEmptyWall() {
        due("small", new FrameProver().small(), 0);
    }

    static void p36_small_aHundredBecomeOne() {
        FrameProver x = Machines.laterWall();
        for (int i = 0; i < 100; i++) {
            x.list(3, 3);
        }
        due("small", x.small(), 1);
    }

    static void p36_small_whatIsLeftMustCloseToo() {
        // 1 leads to 2, 2 to 3: each of the three must be kept out.
        FrameProver x = Machines.graph(2, 1, 0, new int[][] {{0, 0}, {2, 2}, {3, 3}, {3, 3}}, 3);
        x.list(3, 1);
        x.list(3, 2);
        x.list(3, 3);
        due("small", x.small(), 3);
    }

    static void p36_small_isNoJudge() {
        FrameProver x = Machines.laterWall();
        x.judge();
        x.list(3, 3);
        x.small();
        due("fails(0)", x.fails(0), 3);
    }

    static void p36_small_no_theBeginningIsKeptOut() {
        refused(NO, () -> {
            FrameProver x = Machines.twoBits();
            x.list(0, 0);
            return x;
        }, x -> x.small());
    }

    static void p36_small_no_aBadOneIsLeftIn() {
        refused(NO, Machines::twoBits, x -> x.small());
    }

    static void p36_small_no_itDoesNotClose() {
        refused(NO, () -> Machines.listOf(3), x -> x.small());
    }

    // ---- 37 listed

    static void p37_listed_falseIsTheMask_trueTheValues() {
        FrameProver x = Machines.busy();
        due("mask", x.listed(0, false), 3);
        due("values", x.listed(0, true), 1);
    }

    static void p37_listed_theLastOne_number99Too() {
        FrameProver x = Machines.listOf(99);
        x.list(1, 0);
        due("mask", x.listed(99, false), 1);
        due("values", x.listed(99, true), 0);
    }

    static void p37_listed_beyond_behindTheLast() {
        refused(BEYOND, Machines::busy, x -> x.listed(2, false));
        refused(BEYOND, ListEdges::full, x -> x.listed(100, true));
    }

    static void p37_listed_beyond_anEmptyList() {
        refused(BEYOND, Machines::twoBits, x -> x.listed(0, true));
    }

    static void p37_listed_beyond_below0() {
        refused(BEYOND, Machines::busy, x -> x.listed(-1, true));
        refused(BEYOND, Machines::busy, x -> x.listed(LOW, true));
    }

    static void p37_listed_beyond_farAway() {
        refused(BEYOND, Machines::busy, x -> x.listed(TOP, true));
    }

    static void p37_listed_beyond_whatSmallTook() {
        FrameProver x = Machines.laterWall();
        x.list(3, 3);
        x.list(3, 3);
        x.small();
        due("gone", x.listed(1, false), BEYOND);
    }
}
