/** Boundary cases of promises 13 to 19: seals in their places, the lid's settings. */
final class EdgesOfSeals extends Bench {

    // ---- promise 13: seal

    /** "HEIGHT as put (50 .. 400)", "AREA 1 .. 9": the least ones. */
    static void promise13_theLeastHeightAndArea() {
        RubberSeals x = with("P1:10");
        due(x, "seal 0 1 0 50 1", 1);
        int[] want = {1, 50, 50, 1, 0};
        for (int what = 0; what <= 4; what++) dueAsked(x, "told 0 " + what, 1, want[what]);
    }

    /** "HEIGHT as put (50 .. 400)", "AREA 1 .. 9": the greatest ones. */
    static void promise13_theGreatestHeightAndArea() {
        RubberSeals x = with("P1:10");
        due(x, "seal 3 4 0 400 9", 1);
        int[] want = {4, 400, 400, 9, 0};
        for (int what = 0; what <= 4; what++) dueAsked(x, "told 3 " + what, 1, want[what]);
    }

    static void promise13_aHeightThatIsNoneIsBad() {
        dueBad(with("P1:10"), "seal 0 1 0 49 1", "seal 0 1 0 401 1", "seal 0 0 0 49 1", "seal 0 0 0 401 1", "seal 0 1 0 LOW 1", "seal 0 1 0 HIGH 1");
    }

    static void promise13_anAreaThatIsNoneIsBad() {
        dueBad(with("P1:10"), "seal 0 1 0 100 0", "seal 0 1 0 100 10", "seal 0 0 0 100 0", "seal 0 0 0 100 10", "seal 0 1 0 100 -1", "seal 0 1 0 100 HIGH");
    }

    /** "PLACES 0 .. 3". */
    static void promise13_noSuchPlaceIsBad() {
        dueBad(with("P1:10"), "seal -1 1 0 100 1", "seal 4 1 0 100 1", "seal LOW 1 0 100 1", "seal HIGH 0 0 100 1");
    }

    static void promise13_noSuchKindIsBad() {
        dueBad(with("P1:10"), "seal 0 -1 0 100 1", "seal 0 5 0 100 1", "seal 0 LOW 0 100 1", "seal 0 HIGH 0 100 1");
    }

    static void promise13_noSuchStuffIsBad() {
        dueBad(with("P1:10"), "seal 0 1 -1 100 1", "seal 0 1 6 100 1", "seal 0 4 6 100 1", "seal 0 2 LOW 100 1", "seal 0 3 HIGH 100 1");
    }

    /** "NOTHING: the STUFF". */
    static void promise13_aMissingStuffIsNothing() {
        dueFinding(with("P1:10"), NOTHING, "seal 0 1 1 100 1", "seal 0 2 5 100 1", "seal 0 3 1 100 1", "seal 0 4 1 100 1");
    }

    static void promise13_badAheadOfNothing() {
        dueBad(with("P1:10"), "seal 4 1 1 100 1", "seal 0 5 1 100 1", "seal 0 1 1 49 1", "seal 0 1 1 100 10");
    }

    /** "of a PART the STUFF is not looked at": one that is none, one that is missing. */
    static void promise13_thePartsStuffIsNotLookedAt() {
        RubberSeals x = new RubberSeals();
        due(x, "seal 0 0 -1 100 1", 1);
        due(x, "seal 1 0 6 100 1", 1);
        due(x, "seal 2 0 HIGH 100 1", 1);
        due(x, "seal 3 0 LOW 100 1", 1);
        due(x, "count 0", 4);
        due(x, "finding", 0);
    }

    static void promise13_whatAPartsStuffWasToldAsIsNotKept() {
        RubberSeals x = with("P1:10"), y = with("P1:10");
        calls(x, "seal 0 0 0 100 1");
        calls(y, "seal 0 0 77 100 1");
        due("digest()", x.digest(), y.digest());
    }

    /** "anew": FREE HEIGHT, the stretch, and how often it was asked are as of a new one. */
    static void promise13_anewNothingIsLeftOfTheOld() {
        RubberSeals x = with("P1:10W50");
        calls(x, "seal 0 3 0 200 2", "stretch 0 40", "follows 0 1 1", "swell", "seal 0 3 0 200 2");
        dueFree(x, 200);
        due(x, "mark 0 2", 0);
        due(x, "mark 0 3", 0);
        calls(x, "seal 0 4 0 200 2", "blown 0", "seal 0 4 0 200 2");
        due(x, "mark 0 4", 0);
        due(x, "count 0", 1);
    }

    static void promise13_ofAnotherKindNothingIsLeftOfTheOld() {
        RubberSeals x = with("P1:10");
        calls(x, "seal 0 3 0 100 1", "follows 0 1 1", "stretch 0 5", "seal 0 4 0 100 1");
        due(x, "mark 0 4", 0);
        due(x, "mark 0 2", 0);
        dueFinding(x, UNLIKE, "mark 0 3");
    }

    static void promise13_theDepthOfThePlaceStays() {
        RubberSeals x = with("P1:10");
        calls(x, "depth 2 13", "seal 2 1 0 100 1", "seal 2 0 0 90 1");
        dueAsked(x, "told 2 4", 1, 13);
    }

    static void promise13_refusedLeavesTheOldOne() {
        RubberSeals x = with("P1:10");
        calls(x, "seal 1 2 0 100 3", "stretch 1 10");
        dueBad(x, "seal 1 2 0 100 0");
        dueFinding(x, NOTHING, "seal 1 1 1 100 1");
        int[] want = {2, 95, 100, 3, 0};
        for (int what = 0; what <= 4; what++) dueAsked(x, "told 1 " + what, 1, want[what]);
    }

    // ---- promise 14: take

    static void promise14_noSuchPlaceIsBad() {
        dueBad(new RubberSeals(), "take -1", "take 4", "take LOW", "take HIGH");
    }

    static void promise14_takenTwiceIsNothing() {
        RubberSeals x = with("P1:10");
        calls(x, "seal 0 1 0 100 1", "seal 3 0 0 100 1");
        due(x, "take 3", 1);
        dueFinding(x, NOTHING, "take 3", "take 1");
        due(x, "count 0", 1);
    }

    static void promise14_theDepthStays() {
        RubberSeals x = with("P1:10");
        calls(x, "depth 0 200", "seal 0 1 0 100 1", "take 0");
        due(x, "depth 0 200", 200);
    }

    static void promise14_whatIsTakenPushesNoMore() {
        RubberSeals x = with("P1:10");
        calls(x, "seal 0 1 0 100 1", "seal 1 0 0 150 1", "let 0 50");
        dueFraction(x, "rest", 1, 150, 1);
        x.take(1);
        dueFraction(x, "rest", 0, 95, 1);
        x.take(0);
        dueState(x, "rest");
    }

    /** What was taken is asked nothing more, and counts nowhere. */
    static void promise14_whatIsTakenIsNotThere() {
        RubberSeals x = with("P1:10T99W99G9");
        calls(x, "seal 1 3 0 100 1", "seal 2 0 0 90 1", "take 1", "let 0 99999", "let 2 9999", "let 3 99");
        dueFinding(x, NOTHING, "stretch 1 0", "told 1 0", "mark 1 1", "press 1", "through 1", "renew 1", "blown 1", "ends 1 0 0", "follows 1 1 1");
        due(x, "opens", 0);
        due(x, "leak", 0);
        due(x, "age 9", 0);
        due(x, "swell", 0);
        due(x, "sure 20 999", 2);
        dueState(x, "led");
        dueNone(x, "weakest");
    }

    // ---- promise 15: depth

    /** "DEPTH (0 .. 200; 0 at first)". */
    static void promise15_theLeastAndTheGreatest() {
        RubberSeals x = new RubberSeals();
        due(x, "depth 0 0", 0);
        due(x, "depth 0 200", 0);
        due(x, "depth 0 0", 200);
        due(x, "depth 3 200", 0);
        due(x, "depth 3 199", 200);
    }

    static void promise15_aDepthThatIsNoneIsBad() {
        dueBad(new RubberSeals(), "depth 0 -1", "depth 0 201", "depth 0 LOW", "depth 0 HIGH");
    }

    static void promise15_noSuchPlaceIsBad() {
        dueBad(new RubberSeals(), "depth -1 0", "depth 4 0", "depth LOW 0", "depth HIGH 0");
    }

    static void promise15_aPlaceWithoutASealHasOneToo() {
        RubberSeals x = with("P1:10");
        due(x, "depth 1 30", 0);
        due(x, "finding", 0);
        x.seal(1, 1, 0, 100, 1);
        dueAsked(x, "told 1 4", 1, 30);
        dueFraction(x, "rest", 0, 70, 1);
    }

    // ---- promise 16: stretch

    /** "STRETCHED by v in a hundred (0 .. 40)". */
    static void promise16_theLeastAndTheGreatest() {
        RubberSeals x = with("P1:10");
        x.seal(0, 2, 0, 400, 1);
        due(x, "stretch 0 40", 320);
        due(x, "stretch 0 0", 400);
        due(x, "mark 0 2", 0);
    }

    static void promise16_aStretchThatIsNoneIsBad() {
        RubberSeals x = with("P1:10");
        x.seal(0, 2, 0, 400, 1);
        dueBad(x, "stretch 0 -1", "stretch 0 41", "stretch 0 LOW", "stretch 0 HIGH");
    }

    static void promise16_noSuchPlaceIsBad() {
        dueBad(new RubberSeals(), "stretch -1 0", "stretch 4 0", "stretch LOW 0", "stretch HIGH 0");
    }

    static void promise16_noSealIsNothing() {
        dueFinding(new RubberSeals(), NOTHING, "stretch 0 0", "stretch 3 40");
    }

    /** "UNLIKE (a SEAL of another KIND)": what is no RING. */
    static void promise16_aPartAndAPieceAreUnlike() {
        RubberSeals x = with("P1:10");
        calls(x, "seal 0 0 0 100 1", "seal 1 1 0 100 1");
        dueFinding(x, UNLIKE, "stretch 0 1", "stretch 1 1", "stretch 1 0");
    }

    static void promise16_badAheadOfNothingAndUnlike() {
        RubberSeals x = with("P1:10");
        x.seal(1, 1, 0, 100, 1);
        dueBad(x, "stretch 0 41", "stretch 1 41", "stretch 1 -1");
    }

    /** "3 LIP (a RING), 4 BACKED (a RING)". */
    static void promise16_aLipAndABackedOneAreRings() {
        RubberSeals x = with("P1:10");
        calls(x, "seal 0 3 0 100 1", "seal 1 4 0 100 1");
        due(x, "stretch 0 10", 95);
        due(x, "stretch 1 20", 90);
    }

    /** "HEIGHT times (200 less v) by 200, cut". */
    static void promise16_cut() {
        RubberSeals x = with("P1:10");
        x.seal(0, 2, 0, 399, 1);
        due(x, "stretch 0 1", 397);
        due(x, "stretch 0 40", 319);
        x.seal(0, 2, 0, 51, 1);
        due(x, "stretch 0 1", 50);
        due(x, "stretch 0 39", 41);
    }

    static void promise16_ofTheHeightNotOfTheFreeHeight() {
        RubberSeals x = with("P1:10");
        x.seal(0, 2, 0, 200, 1);
        due(x, "stretch 0 40", 160);
        due(x, "stretch 0 20", 180);
        due(x, "stretch 0 20", 180);
        dueAsked(x, "told 0 2", 1, 200);
    }

    /** "as that is told, its FREE HEIGHT becomes": whatever age and swelling made of it. */
    static void promise16_ageAndSwellingAreForgotten() {
        RubberSeals x = with("P1:10W99T99");
        calls(x, "seal 0 2 0 200 1", "swell");
        dueFree(x, 219);
        due(x, "stretch 0 0", 200);
        calls(x, "let 0 500", "age 1");
        dueFree(x, 151);
        due(x, "stretch 0 0", 200);
    }

    // ---- promise 17: told

    static void promise17_noSuchPlaceIsBad() {
        dueBad(new RubberSeals(), "told -1 0", "told 4 0", "told LOW 0", "told HIGH 0");
    }

    static void promise17_noSuchWhatIsBad() {
        RubberSeals x = with("P1:10");
        x.seal(0, 1, 0, 100, 1);
        dueBad(x, "told 0 -1", "told 0 5", "told 0 LOW", "told 0 HIGH");
    }

    static void promise17_noSealIsNothing() {
        dueFinding(new RubberSeals(), NOTHING, "told 0 0", "told 3 1", "told 1 4");
    }

    static void promise17_badAheadOfNothing() {
        dueBad(new RubberSeals(), "told 0 5", "told 0 -1");
    }

    static void promise17_ofAPart() {
        RubberSeals x = new RubberSeals();
        calls(x, "depth 3 200", "seal 3 0 9 400 9");
        int[] want = {0, 400, 400, 9, 200};
        for (int what = 0; what <= 4; what++) dueAsked(x, "told 3 " + what, 1, want[what]);
    }

    // ---- promise 18: mark

    private static RubberSeals oneOfEach() {
        RubberSeals x = with("P1:10", "P1:20", "P1:30", "P1:40", "P1:50", "P1:60");
        calls(x, "seal 0 1 5 100 1", "seal 1 2 4 100 1", "seal 2 3 0 100 1", "seal 3 4 1 100 1");
        return x;
    }

    static void promise18_noSuchPlaceIsBad() {
        dueBad(oneOfEach(), "mark -1 1", "mark 4 1", "mark LOW 1", "mark HIGH 1");
    }

    /** "BAD: also KIND 0". */
    static void promise18_kind0IsBad() {
        RubberSeals x = oneOfEach();
        x.seal(0, 0, 0, 100, 1);
        dueBad(x, "mark 0 0", "mark 1 0");
    }

    static void promise18_noSuchKindIsBad() {
        dueBad(oneOfEach(), "mark 0 -1", "mark 0 5", "mark 0 LOW", "mark 0 HIGH");
    }

    static void promise18_noSealIsNothing() {
        dueFinding(new RubberSeals(), NOTHING, "mark 0 1", "mark 1 2", "mark 2 3", "mark 3 4");
    }

    static void promise18_badAheadOfNothing() {
        dueBad(new RubberSeals(), "mark 0 0", "mark 0 5");
    }

    static void promise18_aPartIsUnlike() {
        RubberSeals x = new RubberSeals();
        x.seal(0, 0, 0, 100, 1);
        dueFinding(x, UNLIKE, "mark 0 1", "mark 0 2", "mark 0 3", "mark 0 4");
    }

    /** "a PIECE (all others, too) its STUFF". */
    static void promise18_allOthersTellTheirStuff() {
        RubberSeals x = oneOfEach();
        due(x, "mark 0 1", 5);
        due(x, "mark 1 1", 4);
        due(x, "mark 2 1", 0);
        due(x, "mark 3 1", 1);
    }

    /** "a RING (LIP, BACKED, too) by how much it is STRETCHED". */
    static void promise18_ringsTellTheirStretch() {
        RubberSeals x = oneOfEach();
        for (int p = 1; p <= 3; p++) due(x, "mark " + p + " 2", 0);
        calls(x, "stretch 1 1", "stretch 2 40", "stretch 3 7");
        due(x, "mark 1 2", 1);
        due(x, "mark 2 2", 40);
        due(x, "mark 3 2", 7);
        dueFinding(x, UNLIKE, "mark 0 2");
    }

    /** A LIP is no BACKED one, a BACKED one no LIP, a RING neither. */
    static void promise18_aLipAndABackedOneAreUnlike() {
        dueFinding(oneOfEach(), UNLIKE, "mark 0 3", "mark 1 3", "mark 3 3", "mark 0 4", "mark 1 4", "mark 2 4");
    }

    /** "a LIP how often one asked whether it FOLLOWS": from never on. */
    static void promise18_howOftenALipWasAsked() {
        RubberSeals x = oneOfEach();
        due(x, "mark 2 3", 0);
        calls(x, "follows 2 1 1", "follows 2 9999 20");
        due(x, "mark 2 3", 2);
        due(x, "blown 2", 0);
        due(x, "mark 2 3", 2);
    }

    /** "What is refused changes nothing": such a question is not counted. */
    static void promise18_refusedQuestionsAreNotCounted() {
        RubberSeals x = oneOfEach();
        dueBad(x, "follows 2 0 1", "follows 2 1 21", "blown 4");
        dueFinding(x, UNLIKE, "follows 3 1 1");
        due(x, "mark 2 3", 0);
        due(x, "mark 3 4", 0);
    }

    /** "a BACKED one how often whether it is BLOWN": of others that is not kept. */
    static void promise18_howOftenABackedOneWasAsked() {
        RubberSeals x = oneOfEach();
        due(x, "mark 3 4", 0);
        calls(x, "blown 3", "blown 3", "blown 3", "blown 0", "blown 2");
        due(x, "mark 3 4", 3);
    }

    static void promise18_eachIsCountedByItself() {
        RubberSeals x = with("P1:10");
        calls(x, "seal 0 3 0 100 1", "seal 1 3 0 100 1", "seal 2 4 0 100 1", "seal 3 4 0 100 1");
        calls(x, "follows 1 1 1", "blown 2", "blown 2");
        due(x, "mark 0 3", 0);
        due(x, "mark 1 3", 1);
        due(x, "mark 2 4", 2);
        due(x, "mark 3 4", 0);
    }

    // ---- promise 19: let

    private static void dueBetween(int what, int least, int most, int first) {
        RubberSeals x = new RubberSeals();
        due(x, "let " + what + " " + least, first);
        dueBad(x, "let " + what + " " + (least - 1), "let " + what + " LOW");
        due(x, "let " + what + " " + most, least);
        dueBad(x, "let " + what + " " + (most + 1), "let " + what + " HIGH");
        due(x, "let " + what + " " + least, most);
    }

    /** "PUSH (0 .. 99999; 0 at first)". */
    static void promise19_theLidsPush() {
        dueBetween(0, 0, 99999, 0);
    }

    /** "DEGREES (-99 .. 99; 20 at first)". */
    static void promise19_degrees() {
        dueBetween(1, -99, 99, 20);
    }

    /** "PRESSURE (0 .. 9999; 0 at first)". */
    static void promise19_pressure() {
        dueBetween(2, 0, 9999, 0);
    }

    /** "GAP (0 .. 99; 0 at first)". */
    static void promise19_gap() {
        dueBetween(3, 0, 99, 0);
    }

    static void promise19_noSuchWhatIsBad() {
        dueBad(new RubberSeals(), "let -1 0", "let 4 0", "let LOW 0", "let HIGH 0");
    }

    static void promise19_whatItWasMayLookLikeARefusal() {
        RubberSeals x = new RubberSeals();
        calls(x, "let 1 -1");
        due(x, "let 1 -3", -1);
        due(x, "let 1 20", -3);
        due(x, "finding", 0);
        for (int f = 1; f <= 5; f++) due(x, "findings " + f, 0);
    }
}
