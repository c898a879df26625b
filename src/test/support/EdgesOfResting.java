/** Boundary cases of promises 20 and 21: where the lid rests, how a seal is pressed. */
final class EdgesOfResting extends Bench {

    /** One PIECE of 100 that pushes 10 a step, and what else is told. */
    private static RubberSeals piece(String... more) {
        RubberSeals x = with("P1:10C5", "P2:10P4:50", "P20:1");
        x.seal(0, 1, 0, 100, 1);
        calls(x, more);
        return x;
    }

    // ---- promise 20: rest

    /** "STATE: there is no SEAL": at first, and when the last was taken. */
    static void promise20_noSealIsState() {
        RubberSeals x = with("P1:10");
        dueState(x, "rest");
        calls(x, "depth 0 5", "let 0 9");
        dueState(x, "rest");
        calls(x, "seal 3 1 0 100 1", "take 3");
        dueState(x, "rest");
    }

    /** "(PUSH 0: where the highest SEAL is just touched": a RUBBER one. */
    static void promise20_push0OnRubber() {
        RubberSeals x = piece("seal 1 1 0 120 1", "depth 1 19", "seal 2 0 0 100 1");
        dueFraction(x, "rest", 0, 101, 1);
    }

    /** "(PUSH 0: where the highest SEAL is just touched": a PART. */
    static void promise20_push0OnAPart() {
        RubberSeals x = piece("seal 1 0 0 101 1");
        dueFraction(x, "rest", 1, 101, 1);
    }

    static void promise20_push0OnRubberAndAPartAlike() {
        RubberSeals x = piece("seal 1 0 0 100 1");
        dueFraction(x, "rest", 1, 100, 1);
    }

    /** "at 0 at least)": the highest SEAL is deeper than it is high. */
    static void promise20_push0AtLeast0() {
        RubberSeals x = piece("depth 0 101");
        dueFraction(x, "rest", 2, 0, 1);
        x.depth(0, 100);
        dueFraction(x, "rest", 2, 0, 1);
        x.depth(0, 99);
        dueFraction(x, "rest", 0, 1, 1);
    }

    static void promise20_theLeastPush() {
        dueFraction(piece("let 0 1"), "rest", 0, 999, 10);
    }

    static void promise20_theGreatestPush() {
        RubberSeals x = with("P1:999");
        calls(x, "seal 0 1 0 400 1", "let 0 99999");
        dueRatio(x, "rest", 0, 399600 - 99999, 999);
        calls(x, "seal 1 4 0 400 9", "seal 2 2 0 400 9", "seal 3 3 0 400 9");
        dueRatio(x, "rest", 0, 400L * 28 * 999 - 99999, 28 * 999);
    }

    /** "It rests at the greatest h at which all RUBBER ones together push as much": at a bend. */
    static void promise20_atABend() {
        RubberSeals x = piece("take 0", "seal 1 1 1 100 1", "let 0 10");
        dueFraction(x, "rest", 0, 98, 1);
        x.let(0, 11);
        dueFraction(x, "rest", 0, 1959, 20);
        x.let(0, 9);
        dueFraction(x, "rest", 0, 491, 5);
        x.let(0, 50);
        dueFraction(x, "rest", 0, 96, 1);
        x.let(0, 51);
        dueFraction(x, "rest", 0, 1919, 20);
    }

    /** "a SEAL is squeezed by FREE HEIGHT less h and DEPTH, if that is above 0". */
    static void promise20_whatIsNotTouchedPushesNothing() {
        RubberSeals x = piece("seal 1 1 0 100 9", "depth 1 3", "let 0 30");
        dueFraction(x, "rest", 0, 97, 1);
        x.let(0, 40);
        dueFraction(x, "rest", 0, 969, 10);
    }

    /** "three times that, if DEGREES are below its COLD". */
    static void promise20_degreesAtAndBelowTheCold() {
        RubberSeals x = piece("let 0 30", "let 1 5");
        dueFraction(x, "rest", 0, 97, 1);
        x.let(1, 4);
        dueFraction(x, "rest", 0, 99, 1);
    }

    static void promise20_aColdNotToldIsNeverReached() {
        RubberSeals x = with("P1:10", "P1:10C-98");
        calls(x, "seal 0 1 0 100 1", "let 0 30", "let 1 -99");
        dueFraction(x, "rest", 0, 97, 1);
        x.seal(0, 1, 1, 100, 1);
        dueFraction(x, "rest", 0, 99, 1);
    }

    static void promise20_someInTheColdAlone() {
        RubberSeals x = piece("seal 1 1 1 100 1", "let 0 20", "let 1 4");
        dueFraction(x, "rest", 0, 696, 7);
    }

    /** "THE LID is not below any PART": just above it, just on it, pushed onto it. */
    static void promise20_onAPart() {
        RubberSeals x = piece("seal 1 0 0 97 1", "let 0 29");
        dueFraction(x, "rest", 0, 971, 10);
        x.let(0, 30);
        dueFraction(x, "rest", 1, 97, 1);
        x.let(0, 31);
        dueFraction(x, "rest", 1, 97, 1);
        x.let(0, 99999);
        dueFraction(x, "rest", 1, 97, 1);
    }

    /** "h is no less than its FREE HEIGHT less DEPTH". */
    static void promise20_onADeepPart() {
        RubberSeals x = piece("seal 1 0 0 97 1", "depth 1 7", "let 0 99999");
        dueFraction(x, "rest", 1, 90, 1);
    }

    /** "on the highest PART". */
    static void promise20_onTheHighestOfSeveral() {
        RubberSeals x = piece("seal 1 0 0 90 1", "seal 2 0 0 99 1", "seal 3 0 0 95 1", "let 0 500");
        dueFraction(x, "rest", 1, 99, 1);
        x.depth(2, 20);
        dueFraction(x, "rest", 1, 95, 1);
        x.depth(3, 6);
        dueFraction(x, "rest", 1, 90, 1);
    }

    static void promise20_aPartInEachPlace() {
        for (int p = 0; p < 4; p++) {
            RubberSeals x = with("P1:10");
            x.seal((p + 1) % 4, 1, 0, 100, 1);
            x.seal(p, 0, 0, 97, 1);
            x.let(0, 500);
            dueFraction(x, "rest", 1, 97, 1);
        }
    }

    /** "(or there is no RUBBER): on the highest PART". */
    static void promise20_partsAlone() {
        RubberSeals x = new RubberSeals();
        calls(x, "seal 1 0 0 90 1", "seal 3 0 0 99 1");
        dueFraction(x, "rest", 1, 99, 1);
        x.let(0, 1);
        dueFraction(x, "rest", 1, 99, 1);
        x.let(0, 99999);
        dueFraction(x, "rest", 1, 99, 1);
    }

    /** "if below 0: at 0": by RUBBER that is too soft. */
    static void promise20_pushedTo0() {
        RubberSeals x = piece("let 0 999");
        dueFraction(x, "rest", 0, 1, 10);
        x.let(0, 1000);
        dueFraction(x, "rest", 2, 0, 1);
        x.let(0, 1001);
        dueFraction(x, "rest", 2, 0, 1);
        calls(x, "seal 0 1 2 100 1", "let 0 99999");
        dueFraction(x, "rest", 2, 0, 1);
    }

    /** "if below 0: at 0": PARTS that are deeper than high are not touched. */
    static void promise20_partsBelow0() {
        RubberSeals x = new RubberSeals();
        calls(x, "seal 0 0 0 50 1", "depth 0 51");
        dueFraction(x, "rest", 2, 0, 1);
        x.let(0, 99999);
        dueFraction(x, "rest", 2, 0, 1);
        x.depth(0, 200);
        dueFraction(x, "rest", 2, 0, 1);
    }

    /** "1 THE LID touches a PART, 2 it touches none and is at 0": at 0, and on a PART. */
    static void promise20_onAPartAt0() {
        RubberSeals x = new RubberSeals();
        calls(x, "seal 0 0 0 50 1", "depth 0 50");
        dueFraction(x, "rest", 1, 0, 1);
        x.let(0, 99999);
        dueFraction(x, "rest", 1, 0, 1);
    }

    static void promise20_rubberBelow0PushesNothing() {
        RubberSeals x = piece("depth 0 150", "let 0 99999");
        dueFraction(x, "rest", 2, 0, 1);
        x.seal(1, 1, 0, 60, 1);
        x.let(0, 10);
        dueFraction(x, "rest", 0, 59, 1);
    }

    static void promise20_aSealAgedAwayIsAt0() {
        RubberSeals x = with("P1:10T99");
        calls(x, "seal 0 1 0 50 1", "let 0 99999", "age 9", "let 0 0");
        dueFree(x, 0);
        dueFraction(x, "rest", 2, 0, 1);
    }

    static void promise20_theHighestThereCanBe() {
        RubberSeals x = with("P20:1W99");
        x.seal(0, 1, 0, 400, 1);
        for (int i = 0; i < 9; i++) x.swell();
        dueFree(x, 800);
        dueFraction(x, "rest", 0, 800, 1);
        x.let(0, 40);
        dueFraction(x, "rest", 2, 0, 1);
        x.let(0, 39);
        dueFraction(x, "rest", 0, 20, 1);
    }

    /** What is told is a fraction of great numbers, in lowest terms. */
    static void promise20_greatNumbers() {
        RubberSeals x = with("P1:1P20:999", "P1:1P18:998", "P1:1P14:997", "P1:1P12:991");
        for (int p = 0; p < 4; p++) x.seal(p, 1, p, 400, 9 - p);
        x.let(0, 99999);
        // Steps of 998/19, 997/17, 996/13, 990/11 (which is 90) times 9, 8, 7, 6 behind the first one.
        long down = 998L * 9 * 17 * 13 + 997L * 8 * 19 * 13 + 996L * 7 * 19 * 17 + 90L * 6 * 19 * 17 * 13;
        long parts = (99999L - 30) * 19 * 17 * 13;
        dueRatio(x, "rest", 0, 399 * down - parts, down);
    }

    static void promise20_restingChangesNothing() {
        RubberSeals x = piece("let 0 77");
        long digest = x.digest();
        x.rest();
        due("digest()", x.digest(), digest);
        due(x, "asked", 0);
    }

    // ---- promise 21: press

    static void promise21_noSuchPlaceIsBad() {
        dueBad(piece(), "press -1", "press 4", "press LOW", "press HIGH");
    }

    static void promise21_noSealIsNothing() {
        dueFinding(piece(), NOTHING, "press 1", "press 3");
    }

    /** "UNLIKE: a PART". */
    static void promise21_aPartIsUnlike() {
        dueFinding(piece("seal 3 0 0 100 1"), UNLIKE, "press 3");
    }

    /** "It OPENS, if that is less than PRESSURE": not, if it is as much. */
    static void promise21_asMuchAsPressure() {
        RubberSeals x = piece("let 0 30", "let 2 30");
        dueFraction(x, "press 0", 0, 30, 1);
        x.let(2, 31);
        dueFraction(x, "press 0", 1, 30, 1);
        x.let(2, 29);
        dueFraction(x, "press 0", 0, 30, 1);
    }

    static void promise21_lessThanPressureByAPart() {
        RubberSeals x = with("P3:10", "P1:10");
        calls(x, "seal 0 1 0 100 1", "seal 1 0 0 98 1", "let 0 99", "let 2 7");
        dueFraction(x, "press 0", 1, 20, 3);
        x.let(2, 6);
        dueFraction(x, "press 0", 0, 20, 3);
    }

    /** At PRESSURE 0 nothing is less. */
    static void promise21_pressure0() {
        RubberSeals x = piece();
        dueFraction(x, "press 0", 0, 0, 1);
        x.let(2, 1);
        dueFraction(x, "press 0", 1, 0, 1);
    }

    static void promise21_whatIsNotSqueezedPresses0() {
        RubberSeals x = piece("seal 1 0 0 100 1", "let 0 99999", "let 2 1");
        dueFraction(x, "press 0", 1, 0, 1);
        x.depth(0, 200);
        dueFraction(x, "press 0", 1, 0, 1);
    }

    /** PRESS is of the STUFF alone: not times AREA. */
    static void promise21_withoutArea() {
        RubberSeals x = piece("seal 0 1 0 100 9", "let 0 90");
        dueFraction(x, "press 0", 0, 10, 1);
    }

    /** "(three times, in the cold)". */
    static void promise21_inTheCold() {
        RubberSeals x = piece("seal 1 0 0 98 1", "let 0 99", "let 1 5");
        dueFraction(x, "press 0", 0, 20, 1);
        x.let(1, 4);
        dueFraction(x, "press 0", 0, 60, 1);
    }

    static void promise21_atABend() {
        RubberSeals x = piece("take 0", "seal 1 1 1 100 1", "let 0 10");
        dueFraction(x, "press 1", 0, 10, 1);
        x.let(0, 50);
        dueFraction(x, "press 1", 0, 50, 1);
        x.let(0, 70);
        dueFraction(x, "press 1", 0, 70, 1);
    }

    /** At 0 it presses less than THE LID pushes. */
    static void promise21_pushedTo0() {
        RubberSeals x = piece("let 0 99999", "let 2 1000");
        dueFraction(x, "press 0", 0, 1000, 1);
        x.let(2, 1001);
        dueFraction(x, "press 0", 1, 1000, 1);
    }

    static void promise21_theGreatestPressure() {
        RubberSeals x = with("P1:999");
        calls(x, "seal 0 4 0 400 1", "let 0 9999", "let 2 9999");
        dueFraction(x, "press 0", 0, 9999, 1);
        x.let(0, 9998);
        dueFraction(x, "press 0", 1, 9998, 1);
    }

    private static final long[] STEEP = {999, 997, 991, 983};
    private static final long[] WIDE = {20, 19, 17, 13};

    /** Four of the greatest height and area in the cold, of widths that share no divisor. */
    private static RubberSeals great() {
        RubberSeals x = new RubberSeals();
        for (int p = 0; p < 4; p++) {
            write(x, 0, "P" + WIDE[p] + ":" + STEEP[p] + "C99W99G99");
            x.stuff(p, 0);
            x.seal(p, 4, p, 400, 9);
        }
        for (int i = 0; i < 9; i++) x.swell();
        calls(x, "let 0 99999", "let 2 9999");
        return x;
    }

    /** The parts of a step: all together push 27 of these, by the product of the widths, a step. */
    private static long greatSum() {
        long sum = 0;
        for (int p = 0; p < 4; p++) sum += STEEP[p] * (20 * 19 * 17 * 13 / WIDE[p]);
        return sum;
    }

    static void promise20_theGreatestOfAll() {
        RubberSeals x = great();
        dueFree(x, 800, 800, 800, 800);
        long down = 27 * greatSum();
        dueRatio(x, "rest", 0, 800 * down - 99999L * 83980, down);
    }

    static void promise21_theGreatestOfAll() {
        RubberSeals x = great();
        long down = 27 * greatSum();
        for (int p = 0; p < 4; p++) dueRatio(x, "press " + p, 1, 3 * STEEP[p] * (83980 / WIDE[p]) * 99999L, down);
    }

    static void promise21_pressChangesNothing() {
        RubberSeals x = piece("let 0 77", "let 2 99");
        long digest = x.digest();
        x.press(0);
        due("digest()", x.digest(), digest);
        due(x, "asked", 0);
    }
}
