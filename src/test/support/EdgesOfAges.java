/** Boundary cases of promises 26 to 32: ages, swelling, what is blown out, ends of making, lips. */
final class EdgesOfAges extends Bench {

    // ---- promise 26: age

    /** A PIECE of 100 at a squeeze of 10. */
    private static RubberSeals squeezed(String stuff) {
        RubberSeals x = with(stuff);
        calls(x, "seal 0 1 0 100 1", "let 0 100");
        return x;
    }

    /** "AGED by t thousand hours (1 .. 9)". */
    static void promise26_theLeastAndTheMost() {
        RubberSeals x = squeezed("P1:10T10");
        due(x, "age 1", 1);
        dueFree(x, 99);
        x.renew(0);
        due(x, "age 9", 1);
        dueFree(x, 91);
    }

    static void promise26_aTimeThatIsNoneIsBad() {
        dueBad(squeezed("P1:10T10"), "age 0", "age 10", "age -1", "age LOW", "age HIGH");
    }

    static void promise26_withoutSeals() {
        due(new RubberSeals(), "age 1", 0);
    }

    static void promise26_partsDoNotAge() {
        RubberSeals x = new RubberSeals();
        calls(x, "seal 0 0 0 100 1", "let 0 99999");
        due(x, "age 9", 0);
        dueFree(x, 100);
    }

    static void promise26_takenOnesDoNotAge() {
        RubberSeals x = squeezed("P1:10T99");
        calls(x, "seal 1 1 0 100 1", "take 0", "let 0 0");
        due(x, "age 9", 0);
        x.let(0, 100);
        due(x, "age 9", 1);
        x.seal(0, 1, 0, 100, 1);
        dueFree(x, 100, 90);
    }

    static void promise26_aSetOf0() {
        RubberSeals x = squeezed("P1:10");
        due(x, "age 9", 0);
        dueFree(x, 100);
    }

    /** "in a hundred (100 at most)": just below, just that, above. */
    static void promise26_aHundredAtMost() {
        RubberSeals x = squeezed("P1:10T33");
        due(x, "age 3", 1);
        dueFree(x, 91);
        x = squeezed("P1:10T50");
        due(x, "age 2", 1);
        dueFree(x, 90);
        x = squeezed("P1:10T34");
        due(x, "age 3", 1);
        dueFree(x, 90);
        x = squeezed("P1:10T99");
        due(x, "age 9", 1);
        dueFree(x, 90);
    }

    /** "cut": less than 1 is nothing, and is not counted. */
    static void promise26_cut() {
        RubberSeals x = squeezed("P1:10T9");
        due(x, "age 1", 0);
        dueFree(x, 100);
        x = squeezed("P1:10T10");
        due(x, "age 1", 1);
        dueFree(x, 99);
        x = squeezed("P1:10T19");
        due(x, "age 1", 1);
        dueFree(x, 99);
    }

    static void promise26_whatIsNotSqueezedDoesNotAge() {
        RubberSeals x = with("P1:10T99");
        calls(x, "seal 0 1 0 100 1", "seal 1 1 0 100 1", "depth 1 10", "let 0 100");
        due(x, "age 9", 1);
        dueFree(x, 90, 100);
        x = squeezed("P1:10T99");
        x.let(0, 0);
        due(x, "age 9", 0);
        dueFree(x, 100);
    }

    /** "(all by one resting)": the second does not bear what the first no longer does. */
    static void promise26_allByOneResting() {
        RubberSeals x = with("P1:10T50");
        calls(x, "seal 0 1 0 100 1", "seal 1 1 0 100 1", "seal 2 2 0 100 1", "let 0 300");
        due(x, "age 1", 3);
        dueFree(x, 95, 95, 95);
    }

    static void promise26_toAFreeHeightOf0() {
        RubberSeals x = with("P1:10T99");
        calls(x, "seal 0 1 0 50 1", "let 0 99999");
        due(x, "age 9", 1);
        dueFree(x, 0);
        due(x, "age 9", 0);
        dueFree(x, 0);
    }

    static void promise26_inADepthTheFreeHeightStaysAboveIt() {
        RubberSeals x = with("P1:10T99");
        calls(x, "seal 0 1 0 50 1", "depth 0 20", "let 0 99999");
        due(x, "age 9", 1);
        dueFree(x, 20);
    }

    static void promise26_theHeightAsPutStays() {
        RubberSeals x = squeezed("P1:10T99");
        x.age(9);
        dueAsked(x, "told 0 2", 1, 100);
    }

    static void promise26_howManyBecameLess() {
        RubberSeals x = with("P1:10T50", "P1:10");
        calls(x, "seal 0 1 0 100 1", "seal 1 1 1 100 1", "seal 2 1 0 100 1", "seal 3 0 0 50 1", "let 0 300");
        due(x, "age 1", 2);
        dueFree(x, 95, 100, 95, 50);
    }

    // ---- promise 27: swell

    static void promise27_withoutSeals() {
        due(new RubberSeals(), "swell", 0);
    }

    static void promise27_partsDoNotSwell() {
        RubberSeals x = with("P1:10W99");
        x.seal(0, 0, 0, 400, 1);
        due(x, "swell", 0);
        dueFree(x, 400);
    }

    static void promise27_takenOnesDoNotSwell() {
        RubberSeals x = with("P1:10W99");
        calls(x, "seal 0 1 0 400 1", "seal 1 1 0 100 1", "take 0");
        due(x, "swell", 9);
    }

    static void promise27_aSwellingOf0() {
        RubberSeals x = with("P1:10");
        x.seal(0, 1, 0, 400, 1);
        due(x, "swell", 0);
        dueFree(x, 400);
    }

    /** "in a thousand of it, cut". */
    static void promise27_cut() {
        RubberSeals x = with("P1:10W9", "P1:10W10", "P1:10W19");
        calls(x, "seal 0 1 0 111 1", "seal 1 1 1 100 1", "seal 2 1 2 100 1");
        due(x, "swell", 2);
        dueFree(x, 111, 101, 101);
    }

    /** "of it": of the FREE HEIGHT, not of the HEIGHT as put. */
    static void promise27_ofTheFreeHeight() {
        RubberSeals x = with("P1:10W50");
        x.seal(0, 2, 0, 100, 1);
        x.stretch(0, 1);
        dueFree(x, 99);
        due(x, "swell", 4);
        dueFree(x, 103);
        dueAsked(x, "told 0 2", 1, 100);
    }

    private static int swellBy(RubberSeals x, int swelling) {
        write(x, 0, "P1:10W" + swelling);
        x.stuff(0, 0);
        return x.swell();
    }

    /** "(800 at most)": just reached. */
    static void promise27_just800() {
        RubberSeals x = with("P1:10");
        x.seal(0, 1, 0, 400, 1);
        int[] by = {99, 99, 99, 90, 50, 99, 99};
        for (int w : by) swellBy(x, w);
        dueFree(x, 728);
        due("swollen to 800", swellBy(x, 99), 72);
        dueFree(x, 800);
        due("swollen no more", swellBy(x, 99), 0);
        dueFree(x, 800);
    }

    /** "(800 at most)": what would go beyond it counts up to it alone. */
    static void promise27_beyond800() {
        RubberSeals x = with("P1:10");
        x.seal(0, 1, 0, 400, 1);
        int[] by = {99, 99, 99, 90, 50, 99, 99, 98};
        for (int w : by) swellBy(x, w);
        dueFree(x, 799);
        due("swollen by one", swellBy(x, 99), 1);
        dueFree(x, 800);
    }

    static void promise27_aFreeHeightOf0() {
        RubberSeals x = with("P1:10T99W99");
        calls(x, "seal 0 1 0 50 1", "let 0 99999", "age 9");
        due(x, "swell", 0);
        dueFree(x, 0);
    }

    /** "how much FREE HEIGHTS became more together". */
    static void promise27_together() {
        RubberSeals x = with("P1:10W10", "P1:10W99");
        calls(x, "seal 0 1 0 100 1", "seal 1 4 1 200 1", "seal 2 0 0 100 1", "seal 3 3 0 399 1");
        due(x, "swell", 1 + 19 + 3);
        dueFree(x, 101, 219, 100, 402);
    }

    // ---- promise 28: renew

    static void promise28_noSuchPlaceIsBad() {
        dueBad(new RubberSeals(), "renew -1", "renew 4", "renew LOW", "renew HIGH");
    }

    static void promise28_noSealIsNothing() {
        dueFinding(new RubberSeals(), NOTHING, "renew 0", "renew 3");
    }

    static void promise28_aNewOneIsLessBy0() {
        RubberSeals x = with("P1:10");
        calls(x, "seal 0 1 0 100 1", "told 0 1");
        dueAsked(x, "renew 0", 1, 0);
    }

    static void promise28_aPartToo() {
        RubberSeals x = new RubberSeals();
        calls(x, "seal 3 0 0 100 1", "told 3 1");
        dueAsked(x, "renew 3", 1, 0);
    }

    /** "(may be below 0)". */
    static void promise28_below0WhenSwollen() {
        RubberSeals x = with("P1:10W99");
        calls(x, "seal 0 1 0 100 1", "swell");
        dueAsked(x, "renew 0", 1, -9);
        dueFree(x, 100);
    }

    static void promise28_twice() {
        RubberSeals x = with("P1:10");
        calls(x, "seal 0 2 0 100 1", "stretch 0 40");
        dueAsked(x, "renew 0", 1, 20);
        dueAsked(x, "renew 0", 1, 0);
    }

    /** "not STRETCHED". */
    static void promise28_notStretched() {
        RubberSeals x = with("P1:10");
        calls(x, "seal 0 2 0 100 1", "stretch 0 40", "renew 0");
        due(x, "mark 0 2", 0);
        dueFree(x, 100);
    }

    static void promise28_thatOneAlone() {
        RubberSeals x = with("P1:10");
        calls(x, "seal 0 2 0 100 1", "seal 1 2 0 100 1", "stretch 0 40", "stretch 1 40", "depth 0 9", "renew 0");
        dueFree(x, 100, 80);
        due(x, "mark 1 2", 40);
        due(x, "depth 0 9", 9);
    }

    // ---- promise 29: blown

    private static RubberSeals pressed(String stuff, int kind) {
        RubberSeals x = with(stuff);
        x.seal(0, kind, 0, 100, 1);
        return x;
    }

    static void promise29_noSuchPlaceIsBad() {
        dueBad(new RubberSeals(), "blown -1", "blown 4", "blown LOW", "blown HIGH");
    }

    static void promise29_noSealIsNothing() {
        dueFinding(new RubberSeals(), NOTHING, "blown 0", "blown 3");
    }

    static void promise29_aPartIsUnlike() {
        RubberSeals x = new RubberSeals();
        x.seal(3, 0, 0, 100, 1);
        dueFinding(x, UNLIKE, "blown 3");
    }

    /** "is more than 100 times PUSH of its STUFF squeezed by 10": as much is not. */
    static void promise29_asMuchIsNot() {
        RubberSeals x = pressed("P1:1", 1);
        calls(x, "let 2 1000", "let 3 1");
        due(x, "blown 0", 0);
        x.let(2, 1001);
        due(x, "blown 0", 1);
        calls(x, "let 2 500", "let 3 2");
        due(x, "blown 0", 0);
        x.let(2, 501);
        due(x, "blown 0", 1);
    }

    /** 100 times 10 by 3 is 333 and a third. */
    static void promise29_moreByLessThan1() {
        RubberSeals x = pressed("P3:1", 2);
        calls(x, "let 2 333", "let 3 1");
        due(x, "blown 0", 0);
        x.let(2, 334);
        due(x, "blown 0", 1);
    }

    static void promise29_withoutGapOrPressure() {
        RubberSeals x = pressed("P20:1", 1);
        x.let(2, 9999);
        due(x, "blown 0", 0);
        calls(x, "let 2 0", "let 3 99");
        due(x, "blown 0", 0);
    }

    static void promise29_theGreatestPressureAndGap() {
        RubberSeals x = pressed("P1:989", 3);
        calls(x, "let 2 9999", "let 3 99");
        due(x, "blown 0", 1);
        x = pressed("P1:990", 3);
        calls(x, "let 2 9999", "let 3 99");
        due(x, "blown 0", 0);
    }

    /** "(BACKED: never)". */
    static void promise29_backedNever() {
        RubberSeals x = pressed("P20:1", 4);
        calls(x, "let 2 9999", "let 3 99");
        due(x, "blown 0", 0);
        x.seal(0, 2, 0, 100, 1);
        due(x, "blown 0", 1);
    }

    /** PUSH of the STUFF alone: the cold does not count. */
    static void promise29_theColdDoesNotCount() {
        RubberSeals x = pressed("P1:1C99", 1);
        calls(x, "let 1 -99", "let 2 1001", "let 3 1");
        due(x, "blown 0", 1);
    }

    static void promise29_squeezedBy10BetweenTwo() {
        RubberSeals x = pressed("P9:10P11:30", 1);
        calls(x, "let 2 2000", "let 3 1");
        due(x, "blown 0", 0);
        x.let(2, 2001);
        due(x, "blown 0", 1);
    }

    static void promise29_squeezedBy10BeyondTheLast() {
        RubberSeals x = pressed("P1:1P2:3", 1);
        calls(x, "let 2 1900", "let 3 1");
        due(x, "blown 0", 0);
        x.let(2, 1901);
        due(x, "blown 0", 1);
    }

    // ---- promise 30: ends

    static void promise30_noSuchPlaceIsBad() {
        dueBad(new RubberSeals(), "ends -1 0 0", "ends 4 0 0", "ends LOW 0 0", "ends HIGH 0 0");
    }

    /** "by a (0 .. 20". */
    static void promise30_aBelow0OrAbove20IsBad() {
        dueBad(pressed("P1:10", 1), "ends 0 -1 0", "ends 0 21 0", "ends 0 LOW 0", "ends 0 HIGH 0");
    }

    /** "by f (0 .. 999". */
    static void promise30_fBelow0OrAbove999IsBad() {
        dueBad(pressed("P1:10", 1), "ends 0 0 -1", "ends 0 0 1000", "ends 0 0 LOW", "ends 0 0 HIGH");
    }

    static void promise30_noSealIsNothing() {
        dueFinding(new RubberSeals(), NOTHING, "ends 0 0 0", "ends 3 20 999");
    }

    static void promise30_aPartIsUnlike() {
        RubberSeals x = new RubberSeals();
        x.seal(0, 0, 0, 100, 1);
        dueFinding(x, UNLIKE, "ends 0 0 0");
    }

    static void promise30_badAheadOfNothingAndUnlike() {
        RubberSeals x = new RubberSeals();
        x.seal(0, 0, 0, 100, 1);
        dueBad(x, "ends 0 21 0", "ends 1 0 1000");
    }

    /** By 0 and 0 there is one way alone: as it is. */
    static void promise30_by0And0() {
        RubberSeals x = pressed("P1:10", 1);
        x.let(0, 77);
        dueAsked(x, "ends 0 0 0", 77, 77);
    }

    /** "and THE LID PUSH less or more by f": the greatest f. */
    static void promise30_theGreatestF() {
        RubberSeals x = with("P1:999");
        calls(x, "seal 0 1 0 400 1", "let 0 2000");
        dueAsked(x, "ends 0 0 999", 1001, 2999);
    }

    /** "less than 0 is 0". */
    static void promise30_aPushLessThan0Is0() {
        RubberSeals x = pressed("P1:10", 1);
        x.let(0, 5);
        dueAsked(x, "ends 0 0 5", 0, 10);
        dueAsked(x, "ends 0 0 6", 0, 11);
        dueAsked(x, "ends 0 0 500", 0, 505);
    }

    /** "above 99999 may be". */
    static void promise30_aPushAbove99999() {
        RubberSeals x = with("P1:999");
        calls(x, "seal 0 1 0 400 1", "let 0 99999");
        dueAsked(x, "ends 0 0 999", 99000, 100998);
    }

    /** "FREE HEIGHT less or more by a": the greatest a, on a PART. */
    static void promise30_theGreatestA() {
        RubberSeals x = pressed("P1:10", 1);
        calls(x, "seal 1 0 0 70 1", "let 0 99999");
        dueAsked(x, "ends 0 20 0", 100, 500);
    }

    /** "below 0, too": a FREE HEIGHT of 0 is less by a. */
    static void promise30_aFreeHeightBelow0() {
        RubberSeals x = pressed("P1:10T99", 1);
        calls(x, "let 0 99999", "age 9");
        dueFree(x, 0);
        dueAsked(x, "ends 0 20 0", 0, 200);
        dueFree(x, 0);
    }

    /** A PART "is as put": it has no ends of making. */
    static void promise30_partsStayAsTheyAre() {
        RubberSeals x = pressed("P1:10", 1);
        calls(x, "seal 1 0 0 98 1", "let 0 99999");
        dueAsked(x, "ends 0 1 0", 10, 30);
    }

    /** "all ways of these": each SEAL by itself. */
    static void promise30_eachByItself() {
        RubberSeals x = with("P1:10");
        calls(x, "seal 0 1 0 100 1", "seal 1 1 0 100 1", "let 0 40");
        dueAsked(x, "ends 0 1 0", 10, 30);
        x.seal(2, 1, 0, 100, 1);
        x.let(0, 60);
        // One higher by 2 than two: 60 is 10 u and 20 (u less 2); one lower than two: 20 u and 10 (u less 2).
        dueAsked(x, "ends 2 1 0", 6, 33);
    }

    /** "The least .., cut; the greatest, cut". */
    static void promise30_cut() {
        RubberSeals x = with("P1:10");
        calls(x, "seal 0 1 0 100 2", "let 0 19");
        dueAsked(x, "ends 0 0 2", 8, 10);
    }

    static void promise30_nothingIsChanged() {
        RubberSeals x = pressed("P1:10", 1);
        calls(x, "let 0 50", "let 2 7", "push 0 1");
        long digest = x.digest();
        x.ends(0, 20, 999);
        due("digest()", x.digest(), digest);
        due(x, "upper", 10);
    }

    // ---- promise 31: sure

    static void promise31_aBelow0OrAbove20IsBad() {
        dueBad(new RubberSeals(), "sure -1 0", "sure 21 0", "sure LOW 0", "sure HIGH 0");
    }

    static void promise31_fBelow0OrAbove999IsBad() {
        dueBad(new RubberSeals(), "sure 0 -1", "sure 0 1000", "sure 0 LOW", "sure 0 HIGH");
    }

    static void promise31_withoutSealsNothingEverOpens() {
        RubberSeals x = new RubberSeals();
        x.let(2, 9999);
        due(x, "sure 20 999", 2);
        x.seal(0, 0, 0, 100, 1);
        due(x, "sure 20 999", 2);
    }

    static void promise31_atPressure0NothingEverOpens() {
        due(pressed("P1:10", 1), "sure 20 999", 2);
    }

    /** "2 nothing ever OPENS": the least is as much as PRESSURE. */
    static void promise31_theLeastIsAsMuchAsPressure() {
        RubberSeals x = pressed("P1:10", 1);
        calls(x, "let 0 50", "let 2 40");
        due(x, "sure 20 10", 2);
        due(x, "sure 20 11", 1);
        x.let(2, 41);
        due(x, "sure 0 10", 1);
    }

    /** "0 at all something OPENS": the greatest is less than PRESSURE. */
    static void promise31_theGreatestIsLessThanPressure() {
        RubberSeals x = pressed("P1:10", 1);
        calls(x, "let 0 50", "let 2 60");
        due(x, "sure 0 10", 1);
        due(x, "sure 0 9", 0);
        x.let(2, 61);
        due(x, "sure 0 10", 0);
    }

    /** "something OPENS": at each way another one does. */
    static void promise31_atEachWayAnotherOne() {
        RubberSeals x = with("P1:10");
        calls(x, "seal 0 1 0 100 1", "seal 1 1 0 101 1", "let 0 40", "let 2 20");
        // Whichever way, the two are 1 or 3 apart, so that one presses less than 20.
        due(x, "sure 1 0", 0);
        x.let(2, 15);
        due(x, "sure 1 0", 1);
        x.let(2, 5);
        due(x, "sure 1 0", 2);
    }

    static void promise31_by0And0() {
        RubberSeals x = pressed("P1:10", 1);
        calls(x, "let 0 50", "let 2 50");
        due(x, "sure 0 0", 2);
        x.let(2, 51);
        due(x, "sure 0 0", 0);
    }

    /** "less than 0 is 0". */
    static void promise31_aPushLessThan0Is0() {
        RubberSeals x = pressed("P1:10", 1);
        calls(x, "let 0 5", "let 2 1");
        due(x, "sure 0 4", 2);
        due(x, "sure 0 5", 1);
        due(x, "sure 0 999", 1);
    }

    /** "above 99999 may be": shared by areas of 11, 99999 press less than 9150 and 100998 more. */
    static void promise31_aPushAbove99999() {
        RubberSeals x = with("P1:999");
        calls(x, "seal 0 1 0 400 9", "seal 1 1 0 400 2", "let 0 99999", "let 2 9150");
        due(x, "opens", 3);
        due(x, "sure 0 0", 0);
        due(x, "sure 0 999", 1);
    }

    // ---- promise 32: follows

    private static RubberSeals lip(String stuff) {
        return pressed(stuff, 3);
    }

    static void promise32_noSuchPlaceIsBad() {
        dueBad(lip("P1:10"), "follows -1 1 1", "follows 4 1 1", "follows LOW 1 1", "follows HIGH 1 1");
    }

    /** "turns 1 .. 9999". */
    static void promise32_turnsThatAreNoneAreBad() {
        dueBad(lip("P1:10"), "follows 0 0 1", "follows 0 10000 1", "follows 0 -1 1", "follows 0 LOW 1", "follows 0 HIGH 1");
    }

    /** "wobble 1 .. 20". */
    static void promise32_aWobbleThatIsNoneIsBad() {
        dueBad(lip("P1:10"), "follows 0 1 0", "follows 0 1 21", "follows 0 1 -1", "follows 0 1 LOW", "follows 0 1 HIGH");
    }

    static void promise32_noSealIsNothing() {
        dueFinding(lip("P1:10"), NOTHING, "follows 1 1 1", "follows 3 9999 20");
    }

    static void promise32_whatIsNoLipIsUnlike() {
        RubberSeals x = with("P1:10");
        calls(x, "seal 0 0 0 100 1", "seal 1 1 0 100 1", "seal 2 2 0 100 1", "seal 3 4 0 100 1");
        dueFinding(x, UNLIKE, "follows 0 1 1", "follows 1 1 1", "follows 2 1 1", "follows 3 1 1");
    }

    static void promise32_badAheadOfNothingAndUnlike() {
        RubberSeals x = with("P1:10");
        x.seal(0, 2, 0, 100, 1);
        dueBad(x, "follows 0 0 1", "follows 1 1 21");
    }

    /** "surely, if 2 times turns times wobble is B at most". */
    static void promise32_surelyUpToB() {
        RubberSeals x = lip("P1:10");
        due(x, "follows 0 50 1", 2);
        due(x, "follows 0 51 1", 1);
        due(x, "follows 0 50 20", 2);
        due(x, "follows 0 51 20", 1);
    }

    /** "not, if turns times wobble is above B". */
    static void promise32_notAboveB() {
        RubberSeals x = lip("P1:10");
        due(x, "follows 0 100 1", 1);
        due(x, "follows 0 101 1", 0);
        due(x, "follows 0 100 20", 1);
        due(x, "follows 0 101 20", 0);
    }

    /** "B 10 times PUSH .., cut": 10 thirds times 10 is 33, 1 third times 10 is 3. */
    static void promise32_bIsCut() {
        RubberSeals x = lip("P3:10");
        due(x, "follows 0 16 1", 2);
        due(x, "follows 0 17 1", 1);
        due(x, "follows 0 33 1", 1);
        due(x, "follows 0 34 1", 0);
        x = lip("P3:1");
        due(x, "follows 0 1 1", 2);
        due(x, "follows 0 2 1", 1);
        due(x, "follows 0 3 1", 1);
        due(x, "follows 0 4 1", 0);
    }

    /** P20:1 squeezed by 1 is a twentieth: B is 0. */
    static void promise32_aBOf0() {
        RubberSeals x = lip("P20:1");
        due(x, "follows 0 1 1", 0);
        due(x, "follows 0 1 2", 0);
        due(x, "follows 0 1 20", 0);
    }

    static void promise32_theMostTurnsAndWobble() {
        RubberSeals x = lip("P1:999");
        due(x, "follows 0 9999 20", 0);
        due(x, "follows 0 9990 20", 1);
        due(x, "follows 0 9991 20", 0);
        x = lip("P1:1P2:999");
        // 10 times (999 and 18 times 998) is 189630.
        due(x, "follows 0 9481 20", 1);
        due(x, "follows 0 9482 20", 0);
        due(x, "follows 0 4740 20", 2);
        due(x, "follows 0 4741 20", 1);
    }

    static void promise32_theColdDoesNotCount() {
        RubberSeals x = lip("P1:10C99");
        x.let(1, -99);
        due(x, "follows 0 50 1", 2);
        due(x, "follows 0 51 1", 1);
        due(x, "follows 0 101 1", 0);
    }
}
