/** Boundary cases of promises 1 to 6: a new object, rows. */
final class EdgesOfRows extends Bench {

    // ---- promise 1: "No ROWS, TEXTS, STUFFS, SEALS."

    static void promise01_noRows() {
        RubberSeals x = new RubberSeals();
        due(x, "count 4", 0);
        dueFinding(x, NOTHING, "tear 0", "tear 1", "tear 2", "tear 3", "tear 4", "tear 5");
    }

    static void promise01_noTexts() {
        RubberSeals x = new RubberSeals();
        due(x, "count 5", 0);
        dueFinding(x, NOTHING, "fault 0", "fault 1", "fault 2", "fault 3");
    }

    static void promise01_noStuffs() {
        RubberSeals x = new RubberSeals();
        due(x, "count 3", 0);
        dueFinding(x, NOTHING, "about 0 0", "about 1 0", "about 2 0", "about 3 0", "about 4 0", "about 5 0");
    }

    static void promise01_noSeals() {
        RubberSeals x = new RubberSeals();
        for (int what = 0; what <= 2; what++) due(x, "count " + what, 0);
        dueFinding(x, NOTHING, "take 0", "take 1", "take 2", "take 3");
    }

    static void promise01_depthsAre0AtFirst() {
        RubberSeals x = new RubberSeals();
        for (int p = 0; p < 4; p++) due(x, "depth " + p + " 7", 0);
    }

    static void promise01_theLidAtFirst() {
        RubberSeals x = new RubberSeals();
        due(x, "let 0 1", 0);
        due(x, "let 1 1", 20);
        due(x, "let 2 1", 0);
        due(x, "let 3 1", 0);
    }

    static void promise01_nothingIsToldAtFirst() {
        RubberSeals x = new RubberSeals();
        due(x, "asked", 0);
        due(x, "upper", 0);
        due(x, "lower", 1);
        due(x, "finding", 0);
        for (int f = 1; f <= 5; f++) due(x, "findings " + f, 0);
    }

    /** "An object is used for at most 512 calls": up to the last of them it answers. */
    static void promise01_the512thCallIsAnswered() {
        RubberSeals x = new RubberSeals();
        x.row(0, 1);
        for (int i = 2; i <= 511; i++) x.lay(0, 0, i);
        dueAsked(x, "lay 0 0 0", 1, 511);
    }

    static void promise01_asManyFindingsAsCalls() {
        RubberSeals x = new RubberSeals();
        for (int i = 1; i <= 511; i++) x.tear(0);
        due(x, "findings 1", 511);
    }

    static void promise01_twoObjectsShareNothing() {
        RubberSeals x = with("P1:10");
        calls(x, "row 0 3", "lay 0 0 5", "seal 0 1 0 100 1", "let 0 7", "depth 1 9", "push 0 1", "tear 5");
        RubberSeals y = new RubberSeals();
        due("digest()", y.digest(), new RubberSeals().digest());
        promise01_nothingIsToldAtFirst();
        calls(y, "row 0 40", "row 1 1", "let 0 9");
        due(x, "count 4", 1);
        due(x, "let 0 7", 7);
    }

    // ---- promise 2: row

    /** "rows of 0 to 40 ints": none. */
    static void promise02_anEmptyRowIsThere() {
        RubberSeals x = new RubberSeals();
        due(x, "row 0 0", 0);
        due(x, "count 4", 1);
        dueFinding(x, BEYOND, "lay 0 0 1");
    }

    /** "rows of 0 to 40 ints": forty. */
    static void promise02_aFullRowHas40() {
        RubberSeals x = new RubberSeals();
        due(x, "row 0 40", 40);
        dueAsked(x, "lay 0 39 1", 1, 0);
        dueFinding(x, BEYOND, "lay 0 40 1");
    }

    /** "ROWS 0 .. 5": the first and the last. */
    static void promise02_theFirstAndTheLastRow() {
        RubberSeals x = new RubberSeals();
        due(x, "row 0 1", 1);
        due(x, "row 5 2", 2);
        due(x, "count 4", 2);
    }

    static void promise02_noSuchRowIsBad() {
        dueBad(new RubberSeals(), "row -1 1", "row 6 1", "row LOW 1", "row HIGH 1");
    }

    /** "BAD: also n above 40". */
    static void promise02_above40IsBad() {
        RubberSeals x = new RubberSeals();
        dueBad(x, "row 0 41", "row 5 41", "row 0 HIGH");
        due(x, "count 4", 0);
    }

    /** "SIZE: below 0". */
    static void promise02_below0IsSize() {
        RubberSeals x = new RubberSeals();
        dueFinding(x, SIZE, "row 0 -1", "row 5 LOW");
        due(x, "count 4", 0);
    }

    static void promise02_badAheadOfSize() {
        dueBad(new RubberSeals(), "row -1 -1", "row 6 -1", "row 6 LOW");
    }

    static void promise02_refusedLeavesTheOldRow() {
        RubberSeals x = new RubberSeals();
        layAll(x, 2, 7, 8);
        dueBad(x, "row 2 41");
        dueFinding(x, SIZE, "row 2 -1");
        dueRow(x, 2, 7, 8);
    }

    /** "there with n ints 0", whatever stood there. */
    static void promise02_anewAllAre0() {
        RubberSeals x = new RubberSeals();
        layAll(x, 1, 7, 8, 9);
        due(x, "row 1 3", 3);
        dueRow(x, 1, 0, 0, 0);
    }

    static void promise02_whatWasCutOffComesBackAs0() {
        RubberSeals x = new RubberSeals();
        layAll(x, 1, 7, 8, 9);
        due(x, "row 1 1", 1);
        due(x, "row 1 3", 3);
        dueRow(x, 1, 0, 0, 0);
    }

    static void promise02_aRowAnewIsCountedOnce() {
        RubberSeals x = new RubberSeals();
        calls(x, "row 3 4", "row 3 4", "row 3 0");
        due(x, "count 4", 1);
    }

    // ---- promise 3: lay

    static void promise03_theFirstAndTheLastPlace() {
        RubberSeals x = new RubberSeals();
        layAll(x, 0, 4, 5, 6);
        dueAsked(x, "lay 0 0 1", 1, 4);
        dueAsked(x, "lay 0 2 1", 1, 6);
        dueRow(x, 0, 1, 5, 1);
    }

    static void promise03_theEndsOfAnInt() {
        RubberSeals x = new RubberSeals();
        x.row(0, 1);
        dueAsked(x, "lay 0 0 LOW", 1, 0);
        dueAsked(x, "lay 0 0 HIGH", 1, LOW);
        dueAsked(x, "lay 0 0 0", 1, HIGH);
    }

    static void promise03_noSuchRowIsBad() {
        dueBad(new RubberSeals(), "lay -1 0 1", "lay 6 0 1", "lay LOW 0 1", "lay HIGH 0 1");
    }

    static void promise03_aMissingRowIsNothing() {
        RubberSeals x = new RubberSeals();
        dueFinding(x, NOTHING, "lay 0 0 1");
        calls(x, "row 0 1", "tear 0");
        dueFinding(x, NOTHING, "lay 0 0 1");
    }

    static void promise03_thePlaceBehindTheLastIsBeyond() {
        RubberSeals x = new RubberSeals();
        layAll(x, 0, 4, 5, 6);
        dueFinding(x, BEYOND, "lay 0 3 1", "lay 0 40 1", "lay 0 HIGH 1");
    }

    static void promise03_aPlaceBelow0IsBeyond() {
        RubberSeals x = new RubberSeals();
        layAll(x, 0, 4, 5, 6);
        dueFinding(x, BEYOND, "lay 0 -1 1", "lay 0 LOW 1");
    }

    static void promise03_anEmptyRowHasNoPlace() {
        RubberSeals x = new RubberSeals();
        x.row(0, 0);
        dueFinding(x, BEYOND, "lay 0 0 1", "lay 0 -1 1");
    }

    static void promise03_aShortenedRowHasFewer() {
        RubberSeals x = new RubberSeals();
        calls(x, "row 0 40", "row 0 2");
        dueFinding(x, BEYOND, "lay 0 2 1", "lay 0 39 1");
    }

    static void promise03_badAheadOfBeyond() {
        dueBad(new RubberSeals(), "lay 6 -1 1", "lay -1 99 1");
    }

    static void promise03_nothingAheadOfBeyond() {
        dueFinding(new RubberSeals(), NOTHING, "lay 0 -1 1", "lay 0 40 1");
    }

    // ---- promise 4: tear

    static void promise04_noSuchRowIsBad() {
        dueBad(new RubberSeals(), "tear -1", "tear 6", "tear LOW", "tear HIGH");
    }

    static void promise04_tornTwiceIsNothing() {
        RubberSeals x = new RubberSeals();
        x.row(5, 3);
        due(x, "tear 5", 1);
        due(x, "count 4", 0);
        dueFinding(x, NOTHING, "tear 5");
    }

    static void promise04_anEmptyRowCanBeTorn() {
        RubberSeals x = new RubberSeals();
        x.row(0, 0);
        due(x, "tear 0", 1);
        due(x, "count 4", 0);
        dueFinding(x, NOTHING, "tear 0");
    }

    static void promise04_othersStay() {
        RubberSeals x = new RubberSeals();
        layAll(x, 0, 1);
        layAll(x, 1, 2);
        layAll(x, 2, 3);
        due(x, "tear 1", 1);
        dueRow(x, 0, 1);
        dueRow(x, 2, 3);
    }

    static void promise04_madeAgainAllAre0() {
        RubberSeals x = new RubberSeals();
        layAll(x, 0, 7, 8);
        calls(x, "tear 0", "row 0 2");
        dueRow(x, 0, 0, 0);
    }

    // ---- promise 5: copy

    static void promise05_noSuchRowIsBad() {
        RubberSeals x = new RubberSeals();
        calls(x, "row 0 5", "row 1 5");
        dueBad(x, "copy -1 0 1 0 1", "copy 6 0 1 0 1", "copy 0 0 -1 0 1", "copy 0 0 6 0 1", "copy LOW 0 HIGH 0 1");
    }

    static void promise05_badAheadOfSize() {
        RubberSeals x = new RubberSeals();
        x.row(0, 5);
        dueBad(x, "copy 6 0 0 0 -1", "copy 0 0 6 0 -1");
    }

    /** "SIZE: n below 0". */
    static void promise05_below0IsSize() {
        RubberSeals x = new RubberSeals();
        calls(x, "row 0 5", "row 1 5");
        dueFinding(x, SIZE, "copy 0 0 1 0 -1", "copy 0 0 1 0 LOW", "copy 0 3 0 3 -1");
    }

    static void promise05_sizeAheadOfNothing() {
        RubberSeals x = new RubberSeals();
        x.row(0, 5);
        dueFinding(x, SIZE, "copy 1 0 0 0 -1", "copy 0 0 1 0 -1", "copy 0 9 0 9 -1");
    }

    /** "NOTHING: either". */
    static void promise05_eitherMissingIsNothing() {
        RubberSeals x = new RubberSeals();
        x.row(0, 5);
        dueFinding(x, NOTHING, "copy 1 0 0 0 1", "copy 0 0 1 0 1", "copy 1 0 2 0 1", "copy 1 0 1 0 1", "copy 1 0 0 0 0");
    }

    static void promise05_nothingAheadOfBeyond() {
        RubberSeals x = new RubberSeals();
        x.row(0, 5);
        dueFinding(x, NOTHING, "copy 1 9 0 0 1", "copy 0 9 1 0 1", "copy 0 0 1 0 6", "copy 0 -1 1 -1 1");
    }

    /** "BEYOND: not so many there", in the one from which. */
    static void promise05_tooFewToTake() {
        RubberSeals x = new RubberSeals();
        calls(x, "row 0 5", "row 1 40");
        dueFinding(x, BEYOND, "copy 0 0 1 0 6", "copy 0 1 1 0 5", "copy 0 4 1 0 2", "copy 0 5 1 0 1");
        due(x, "copy 0 4 1 0 1", 1);
        due(x, "copy 0 0 1 0 5", 1);
    }

    /** "BEYOND: not so many there", in the one to which. */
    static void promise05_tooFewToCoverThere() {
        RubberSeals x = new RubberSeals();
        calls(x, "row 0 40", "row 1 5");
        dueFinding(x, BEYOND, "copy 0 0 1 0 6", "copy 0 0 1 1 5", "copy 0 0 1 4 2", "copy 0 0 1 5 1");
        due(x, "copy 0 0 1 4 1", 1);
        due(x, "copy 0 0 1 0 5", 1);
    }

    static void promise05_placesBelow0AreBeyond() {
        RubberSeals x = new RubberSeals();
        calls(x, "row 0 5", "row 1 5");
        dueFinding(x, BEYOND, "copy 0 -1 1 0 1", "copy 0 0 1 -1 1", "copy 0 LOW 1 0 5", "copy 0 0 1 LOW 5", "copy 0 -1 1 0 0");
    }

    /** A place and n that together go beyond the ints come to no place that is there. */
    static void promise05_noWrapAround() {
        RubberSeals x = new RubberSeals();
        calls(x, "row 0 5", "row 1 5");
        dueFinding(x, BEYOND, "copy 0 1 1 0 HIGH", "copy 0 HIGH 1 0 1", "copy 0 HIGH 1 HIGH HIGH", "copy 0 0 1 HIGH 1", "copy 0 0 1 1 HIGH");
    }

    static void promise05_none() {
        RubberSeals x = new RubberSeals();
        layAll(x, 0, 1, 2);
        layAll(x, 1, 3, 4);
        due(x, "copy 0 0 1 0 0", 1);
        due(x, "copy 0 2 1 2 0", 1);
        dueRow(x, 1, 3, 4);
    }

    static void promise05_noneOfEmptyRows() {
        RubberSeals x = new RubberSeals();
        calls(x, "row 0 0", "row 1 0");
        due(x, "copy 0 0 1 0 0", 1);
        due(x, "copy 0 0 0 0 0", 1);
        dueFinding(x, BEYOND, "copy 0 0 1 0 1", "copy 0 1 1 0 0", "copy 0 0 1 1 0");
    }

    static void promise05_aWholeRowOf40() {
        RubberSeals x = new RubberSeals();
        calls(x, "row 0 40", "row 5 40", "lay 0 0 3", "lay 0 39 4");
        due(x, "copy 0 0 5 0 40", 1);
        dueAsked(x, "lay 5 0 0", 1, 3);
        dueAsked(x, "lay 5 39 0", 1, 4);
        dueAsked(x, "lay 0 39 0", 1, 4);
    }

    static void promise05_placesBesideStay() {
        RubberSeals x = new RubberSeals();
        layAll(x, 0, 1, 2, 3, 4);
        layAll(x, 1, 5, 6, 7, 8);
        due(x, "copy 0 2 1 1 2", 1);
        dueRow(x, 1, 5, 3, 4, 8);
        dueRow(x, 0, 1, 2, 3, 4);
    }

    /** "perhaps itself .. as if taken ahead": to places behind those taken. */
    static void promise05_ontoItselfBehind() {
        RubberSeals x = new RubberSeals();
        layAll(x, 0, 1, 2, 3, 4, 5);
        due(x, "copy 0 0 0 1 4", 1);
        dueRow(x, 0, 1, 1, 2, 3, 4);
    }

    /** "perhaps itself .. as if taken ahead": to places ahead of those taken. */
    static void promise05_ontoItselfAhead() {
        RubberSeals x = new RubberSeals();
        layAll(x, 0, 1, 2, 3, 4, 5);
        due(x, "copy 0 1 0 0 4", 1);
        dueRow(x, 0, 2, 3, 4, 5, 5);
    }

    static void promise05_ontoItselfInPlace() {
        RubberSeals x = new RubberSeals();
        layAll(x, 0, 1, 2, 3);
        due(x, "copy 0 0 0 0 3", 1);
        dueRow(x, 0, 1, 2, 3);
    }

    // ---- promise 6: mean

    static void promise06_noSuchRowIsBad() {
        dueBad(new RubberSeals(), "mean -1", "mean 6", "mean LOW", "mean HIGH");
    }

    static void promise06_aMissingRowIsNothing() {
        dueFinding(new RubberSeals(), NOTHING, "mean 0", "mean 5");
    }

    /** "NOUGHT (shared among none)". */
    static void promise06_anEmptyRowIsNought() {
        RubberSeals x = new RubberSeals();
        calls(x, "row 0 0", "row 5 0");
        dueFinding(x, NOUGHT, "mean 0", "mean 5");
    }

    static void promise06_ofOne() {
        RubberSeals x = new RubberSeals();
        layAll(x, 0, -7);
        dueAsked(x, "mean 0", 1, -7);
    }

    /** "cut": what is behind the whole number goes, above 0 and below. */
    static void promise06_cut() {
        RubberSeals x = new RubberSeals();
        layAll(x, 0, 2, 3);
        dueAsked(x, "mean 0", 1, 2);
        layAll(x, 0, -2, -3);
        dueAsked(x, "mean 0", 1, -2);
        layAll(x, 0, 0, -1);
        dueAsked(x, "mean 0", 1, 0);
        layAll(x, 0, -1, -1, -1, 0);
        dueAsked(x, "mean 0", 1, 0);
    }

    static void promise06_noWrapAroundAtTheTop() {
        RubberSeals x = new RubberSeals();
        x.row(0, 40);
        for (int i = 0; i < 40; i++) x.lay(0, i, HIGH);
        dueAsked(x, "mean 0", 1, HIGH);
    }

    static void promise06_noWrapAroundAtTheBottom() {
        RubberSeals x = new RubberSeals();
        x.row(0, 40);
        for (int i = 0; i < 40; i++) x.lay(0, i, LOW);
        dueAsked(x, "mean 0", 1, LOW);
    }
}
