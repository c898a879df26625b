/** Boundary cases of promises 22 to 25: what opens and leaks, what goes through. */
final class EdgesOfLeaks extends Bench {

    /** Four PIECES of 100 that push 10 a step, in PLACES each deeper by 1. */
    private static RubberSeals stairs(String... more) {
        RubberSeals x = with("P1:10", "P3:10", "P10:31");
        for (int p = 0; p < 4; p++) {
            x.seal(p, 1 + p, 0, 100, 1);
            x.depth(p, p);
        }
        calls(x, more);
        return x;
    }

    // ---- promise 22: opens

    static void promise22_withoutSeals() {
        RubberSeals x = new RubberSeals();
        x.let(2, 9999);
        due(x, "opens", 0);
    }

    static void promise22_partsNeverOpen() {
        RubberSeals x = new RubberSeals();
        calls(x, "seal 0 0 0 100 1", "seal 3 0 0 90 1", "let 2 9999");
        due(x, "opens", 0);
    }

    static void promise22_pressure0() {
        due(stairs(), "opens", 0);
    }

    /** Bits: one PLACE more for every step of 10. */
    static void promise22_eachPlaceHasItsBit() {
        RubberSeals x = stairs("let 0 140", "let 2 5");
        // h is 95: they press 50, 40, 30, 20.
        due(x, "opens", 0);
        x.let(2, 20);
        due(x, "opens", 0);
        x.let(2, 21);
        due(x, "opens", 8);
        x.let(2, 31);
        due(x, "opens", 12);
        x.let(2, 41);
        due(x, "opens", 14);
        x.let(2, 51);
        due(x, "opens", 15);
    }

    static void promise22_whatIsNotTouchedOpens() {
        RubberSeals x = stairs("let 0 10", "let 2 1");
        due(x, "opens", 14);
    }

    static void promise22_itChangesNothing() {
        RubberSeals x = stairs("let 0 140", "let 2 31", "push 0 1");
        long digest = x.digest();
        x.opens();
        due("digest()", x.digest(), digest);
        due(x, "upper", 10);
        due(x, "asked", 0);
    }

    // ---- promise 23: weakest

    /** "NONE: none is RUBBER": at first, and by PARTS alone. */
    static void promise23_noneIsRubber() {
        RubberSeals x = new RubberSeals();
        calls(x, "row 0 1", "lay 0 0 9", "lay 0 0 8");
        dueNone(x, "weakest");
        calls(x, "seal 0 0 0 100 1", "seal 3 0 0 100 1");
        dueNone(x, "weakest");
        due(x, "asked", 9);
    }

    static void promise23_theOnlyOne() {
        RubberSeals x = stairs("take 0", "take 1", "take 2", "let 0 25");
        dueAsked(x, "weakest", 3, 25);
    }

    /** "of alike ones the first". */
    static void promise23_theFirstOfAlikeOnes() {
        RubberSeals x = stairs("let 0 40");
        for (int p = 0; p < 4; p++) x.depth(p, 0);
        dueAsked(x, "weakest", 0, 10);
        x.seal(0, 0, 0, 50, 1);
        dueAsked(x, "weakest", 1, 13);
        calls(x, "depth 2 1", "depth 3 1");
        dueAsked(x, "weakest", 2, 10);
    }

    static void promise23_theFirstOfSeveralNotTouched() {
        RubberSeals x = stairs("let 0 5");
        dueAsked(x, "weakest", 1, 0);
    }

    static void promise23_theLast() {
        RubberSeals x = stairs("let 0 140");
        dueAsked(x, "weakest", 3, 20);
    }

    /** Presses that are alike when cut are not alike. */
    static void promise23_lessByAPartOfOne() {
        RubberSeals x = with("P1:10", "P3:10", "P10:31");
        calls(x, "seal 0 1 1 100 1", "seal 1 1 2 100 1", "seal 2 0 0 99 1", "let 0 99");
        // 10 thirds and 31 tenths.
        dueAsked(x, "weakest", 1, 3);
        calls(x, "seal 0 1 2 100 1", "seal 1 1 1 100 1");
        dueAsked(x, "weakest", 0, 3);
    }

    /** "that, cut". */
    static void promise23_cut() {
        RubberSeals x = stairs("take 1", "take 2", "take 3", "let 0 19");
        dueAsked(x, "weakest", 0, 19);
        x.seal(1, 1, 0, 100, 1);
        x.depth(1, 0);
        dueAsked(x, "weakest", 0, 9);
    }

    static void promise23_theColdCounts() {
        RubberSeals x = with("P1:10", "P1:10C5");
        calls(x, "seal 0 1 1 100 1", "seal 1 1 0 100 1", "let 0 40", "let 1 5");
        dueAsked(x, "weakest", 0, 20);
        x.let(1, 4);
        dueAsked(x, "weakest", 1, 10);
    }

    // ---- promise 24: leak

    static void promise24_withoutSeals() {
        RubberSeals x = new RubberSeals();
        x.let(2, 9999);
        due(x, "leak", 0);
    }

    static void promise24_partsDoNotLeak() {
        RubberSeals x = new RubberSeals();
        calls(x, "seal 0 0 0 100 9", "let 2 9999");
        due(x, "leak", 0);
    }

    static void promise24_pressure0() {
        due(stairs(), "leak", 0);
    }

    /** "of all RUBBER ones that OPEN": those that press as much do not. */
    static void promise24_thoseThatOpenAlone() {
        RubberSeals x = stairs("let 0 140", "let 2 20");
        due(x, "leak", 0);
        x.let(2, 21);
        due(x, "leak", 1);
        x.let(2, 30);
        due(x, "leak", 10);
        x.let(2, 51);
        due(x, "leak", 1 + 11 + 21 + 31);
    }

    /** "cut, together": each one's share is cut, then they are put together. */
    static void promise24_eachIsCut() {
        RubberSeals x = with("P3:1");
        for (int p = 0; p < 4; p++) x.seal(p, 1, 0, 100, 1);
        calls(x, "seal 0 1 0 100 2", "let 0 5", "let 2 3");
        // Each presses 1: 2 * 2 and 2 three times.
        due(x, "leak", 10);
        x.let(0, 1);
        // Each presses a fifth: 5 and 3 fifths, cut, and 2 and 4 fifths, cut, three times.
        due(x, "leak", 11);
    }

    /** A leak below 1 is cut to 0, though it OPENS. */
    static void promise24_lessThan1() {
        RubberSeals x = with("P2:1");
        calls(x, "seal 0 1 0 100 1", "seal 1 0 0 99 1", "let 0 9", "let 2 1");
        due(x, "opens", 1);
        due(x, "leak", 0);
        x.seal(0, 1, 0, 100, 2);
        due(x, "leak", 1);
    }

    static void promise24_theGreatest() {
        RubberSeals x = with("P1:1");
        for (int p = 0; p < 4; p++) x.seal(p, 4, 0, 50, 9);
        calls(x, "let 2 9999");
        due(x, "leak", 4 * 9 * 9999);
    }

    // ---- promise 25: through

    private static RubberSeals gas(String... more) {
        RubberSeals x = with("P1:10G7T99", "P1:10", "P1:10G99");
        calls(x, "seal 0 1 0 100 1", "let 2 50");
        calls(x, more);
        return x;
    }

    static void promise25_noSuchPlaceIsBad() {
        dueBad(gas(), "through -1", "through 4", "through LOW", "through HIGH");
    }

    static void promise25_noSealIsNothing() {
        dueFinding(gas(), NOTHING, "through 1", "through 3");
    }

    static void promise25_aPartIsUnlike() {
        dueFinding(gas("seal 1 0 0 100 1"), UNLIKE, "through 1");
    }

    /** "NOUGHT: to a height of 0". */
    static void promise25_squeezedTo0IsNought() {
        RubberSeals x = gas("let 0 999");
        dueFraction(x, "through 0", 1, 3500, 1);
        x.let(0, 1000);
        dueFinding(x, NOUGHT, "through 0");
        x.let(0, 99999);
        dueFinding(x, NOUGHT, "through 0");
    }

    /** "NOUGHT: to a height of 0", though nothing would go through. */
    static void promise25_noughtWithoutGasToo() {
        RubberSeals x = gas("seal 0 1 1 100 1", "let 0 99999");
        dueFinding(x, NOUGHT, "through 0");
        x.let(2, 0);
        dueFinding(x, NOUGHT, "through 0");
    }

    /** "(NOUGHT last.)" */
    static void promise25_noughtLast() {
        RubberSeals x = gas("seal 1 0 0 50 1", "depth 1 50", "let 0 99999");
        dueFinding(x, NOUGHT, "through 0");
        dueFinding(x, UNLIKE, "through 1");
        dueFinding(x, NOTHING, "through 2");
        dueBad(x, "through 4");
    }

    /** "the height to which it is squeezed (h and DEPTH": at h 0 the DEPTH alone. */
    static void promise25_at0InADepthOf1() {
        RubberSeals x = gas("depth 0 1", "let 0 99999");
        dueFraction(x, "through 0", 1, 350, 1);
    }

    static void promise25_hAndDepth() {
        RubberSeals x = gas("depth 0 30", "let 0 10");
        dueFraction(x, "through 0", 1, 350, 99);
    }

    /** "FREE HEIGHT, if it is not squeezed)": just touched, and below THE LID. */
    static void promise25_notSqueezed() {
        RubberSeals x = gas();
        dueFraction(x, "through 0", 1, 7, 2);
        x.seal(1, 0, 0, 200, 1);
        dueFraction(x, "through 0", 1, 7, 2);
        x.depth(0, 200);
        dueFraction(x, "through 0", 1, 7, 2);
    }

    static void promise25_aFreeHeightOf0IsNought() {
        RubberSeals x = gas("let 0 99999", "age 9", "let 0 0");
        dueFree(x, 0);
        dueFinding(x, NOUGHT, "through 0");
        x.depth(0, 5);
        dueFinding(x, NOUGHT, "through 0");
    }

    static void promise25_noGasIs0By1() {
        RubberSeals x = gas("seal 1 1 1 100 1");
        dueFraction(x, "through 1", 1, 0, 1);
    }

    static void promise25_noPressureIs0By1() {
        RubberSeals x = gas("let 2 0");
        dueFraction(x, "through 0", 1, 0, 1);
    }

    static void promise25_theGreatest() {
        RubberSeals x = gas("seal 0 1 2 100 9", "let 2 9999", "let 0 8999");
        dueFraction(x, "through 0", 1, 99L * 9999 * 9 * 90, 1);
    }
}
