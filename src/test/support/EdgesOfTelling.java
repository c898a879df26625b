/** Boundary cases of promises 39 to 45: what is told behind other calls. */
final class EdgesOfTelling extends Bench {

    /** Everything that tells by asked() can tell something here. */
    private static RubberSeals full() {
        RubberSeals x = with("P1:10T5", "P1:30");
        calls(x, "seal 0 1 0 100 1", "seal 1 2 1 100 1", "let 0 80", "row 0 6", "lay 0 0 9", "lay 0 0 8");
        return x;
    }

    // ---- promise 39: asked

    /** "0 before". */
    static void promise39_before() {
        RubberSeals x = with("P1:10");
        calls(x, "row 0 1", "text 0 4", "put 0 0 65", "seal 0 1 0 100 1", "depth 0 7", "let 0 9", "rest", "count 0");
        due(x, "asked", 0);
    }

    static void promise39_theNineThatTell() {
        RubberSeals x = full();
        dueAsked(x, "lay 0 0 60", 1, 8);
        dueAsked(x, "mean 0", 1, 10);
        dueAsked(x, "about 0 1", 1, 5);
        dueAsked(x, "told 0 2", 1, 100);
        dueAsked(x, "weakest", 0, 20);
        dueAsked(x, "renew 0", 1, 0);
        dueAsked(x, "ends 0 0 40", 10, 30);
        dueAsked(x, "parting 3", 20, 400);
        dueAsked(x, "choose 2 0 1", 0, 22);
    }

    /** "that was not refused": what was told ahead stays. */
    static void promise39_refusedOnesTellNothing() {
        RubberSeals x = full();
        dueBad(x, "lay 6 0 0", "mean 6", "about 0 5", "told 0 5", "renew 4", "ends 0 21 0", "parting 1", "choose 0 0 1");
        dueFinding(x, NOTHING, "lay 1 0 0", "mean 1", "about 2 0", "told 2 0", "renew 2", "ends 2 0 0", "parting 5", "choose 4 0 1");
        dueSpent(x, "choose 3 0 3");
        due(x, "asked", 9);
    }

    /** "(nor NONE)". */
    static void promise39_noneTellsNothing() {
        RubberSeals x = full();
        x.let(2, 9999);
        dueNone(x, "choose 3 0 4");
        calls(x, "take 0", "take 1");
        dueNone(x, "weakest");
        due(x, "asked", 9);
    }

    /** All others tell nothing by asked(), and asked() itself neither. */
    static void promise39_othersTellNothing() {
        RubberSeals x = full();
        calls(x, "row 1 3", "copy 0 0 1 0 1", "tear 1", "text 0 3", "put 0 0 80", "fault 0", "stuff 2 3", "push 0 7", "seal 2 3 0 90 1",
            "depth 2 3", "stretch 2 4", "mark 2 2", "let 2 50", "rest", "press 0", "opens", "leak", "through 0", "age 9", "swell",
            "blown 0", "sure 1 1", "follows 2 3 4", "batch 9 5 3 1", "led", "take 2", "asked", "upper", "lower", "count 3", "finding",
            "findings 1", "digest");
        due(x, "asked", 9);
    }

    static void promise39_below0() {
        RubberSeals x = full();
        calls(x, "lay 0 1 LOW", "lay 0 1 0");
        due(x, "asked", LOW);
        x.about(0, 2);
        due(x, "asked", -99);
    }

    /** Told as 0 is told, too. */
    static void promise39_0IsTold() {
        RubberSeals x = full();
        dueAsked(x, "about 0 3", 1, 0);
    }

    // ---- promises 40 and 41: upper, lower

    /** "0 before". */
    static void promise40_before() {
        RubberSeals x = full();
        due(x, "upper", 0);
    }

    /** "1 before". */
    static void promise41_before() {
        RubberSeals x = full();
        due(x, "lower", 1);
    }

    static void promise40_theFiveThatTell() {
        RubberSeals x = with("P3:10G6");
        calls(x, "seal 0 1 0 100 1", "let 0 5", "let 2 7");
        dueFraction(x, "push 0 1", 1, 10, 3);
        dueFraction(x, "rest", 0, 197, 2);
        dueFraction(x, "press 0", 1, 5, 1);
        dueFraction(x, "through 0", 1, 84, 197);
        dueFraction(x, "batch 4 1 1 0", 1, 3, 4);
    }

    private static void dueStill(RubberSeals x, long up, long down) {
        due(x, "upper", up);
        due(x, "lower", down);
    }

    /** "that was told last": refused calls tell none. */
    static void promise40_refusedOnesTellNothing() {
        RubberSeals x = full();
        x.seal(2, 0, 0, 50, 1);
        x.batch(4, 1, 1, 0);
        dueBad(x, "push 0 100", "press 4", "through 4", "batch 0 0 1 0");
        dueFinding(x, NOTHING, "push 2 1", "press 3", "through 3");
        dueFinding(x, UNLIKE, "press 2", "through 2");
        dueStill(x, 3, 4);
    }

    static void promise40_refusedByStateOrNoughtTellsNothing() {
        RubberSeals x = with("P1:1G5");
        x.batch(4, 1, 1, 0);
        dueState(x, "rest", "led");
        calls(x, "seal 0 1 0 50 1", "let 0 99999");
        dueFinding(x, NOUGHT, "through 0");
        dueStill(x, 3, 4);
    }

    /** Calls that rest THE LID, or count in fractions, without telling one. */
    static void promise41_othersTellNothing() {
        RubberSeals x = full();
        x.batch(4, 1, 1, 0);
        calls(x, "let 2 50", "opens", "weakest", "leak", "age 1", "swell", "blown 0", "ends 0 3 3", "sure 3 3", "strip 0 5", "parting 3",
            "led", "choose 3 0 4", "mean 0", "digest", "upper", "lower");
        dueStill(x, 3, 4);
    }

    /** "in lowest terms". */
    static void promise40_lowestTerms() {
        RubberSeals x = with("P20:10");
        dueFraction(x, "push 0 4", 1, 2, 1);
        dueFraction(x, "push 0 5", 1, 5, 2);
        dueFraction(x, "batch 40 10 1 0", 1, 3, 4);
    }

    /** "the lower number above 0 (0 by 1)". */
    static void promise41_0By1() {
        RubberSeals x = with("P20:10");
        x.push(0, 5);
        dueFraction(x, "push 0 0", 1, 0, 1);
        x.push(0, 5);
        dueFraction(x, "batch 5 5 1 0", 1, 0, 1);
        x.seal(0, 1, 0, 50, 1);
        x.push(0, 5);
        dueFraction(x, "press 0", 0, 0, 1);
        x.push(0, 5);
        dueFraction(x, "through 0", 1, 0, 1);
        calls(x, "let 0 99999", "push 0 5");
        dueFraction(x, "rest", 2, 0, 1);
    }

    // ---- promise 42: count

    /** "BAD": what is none of 0 .. 5. */
    static void promise42_noSuchWhatIsBad() {
        dueBad(new RubberSeals(), "count -1", "count 6", "count LOW", "count HIGH");
    }

    static void promise42_allThere() {
        RubberSeals x = new RubberSeals();
        for (int t = 0; t < 4; t++) write(x, t, "P1:1");
        for (int s = 0; s < 6; s++) x.stuff(s, s % 4);
        for (int r = 0; r < 6; r++) x.row(r, r);
        for (int p = 0; p < 4; p++) x.seal(p, 4, p, 100, 1);
        int[] want = {4, 4, 4, 6, 6, 4};
        for (int what = 0; what <= 5; what++) due(x, "count " + what, want[what]);
    }

    static void promise42_noneThere() {
        RubberSeals x = new RubberSeals();
        for (int what = 0; what <= 5; what++) due(x, "count " + what, 0);
    }

    /** A PART is a SEAL alone. */
    static void promise42_parts() {
        RubberSeals x = new RubberSeals();
        x.seal(0, 0, 0, 100, 1);
        due(x, "count 0", 1);
        due(x, "count 1", 0);
        due(x, "count 2", 0);
    }

    /** A PIECE is RUBBER, and no RING. */
    static void promise42_pieces() {
        RubberSeals x = with("P1:10");
        x.seal(0, 1, 0, 100, 1);
        due(x, "count 0", 1);
        due(x, "count 1", 1);
        due(x, "count 2", 0);
    }

    /** "2 RINGS (LIPS, BACKED ones, too)". */
    static void promise42_lipsAndBackedOnesAreRings() {
        for (int kind = 2; kind <= 4; kind++) {
            RubberSeals x = with("P1:10");
            x.seal(3, kind, 0, 100, 1);
            for (int what = 0; what <= 2; what++) due(x, "count " + what, 1);
        }
    }

    /** ROWS and TEXTS of none are there, torn ones are not. */
    static void promise42_emptyOnesAreThere() {
        RubberSeals x = new RubberSeals();
        calls(x, "row 0 0", "row 1 0", "text 0 0", "tear 1");
        due(x, "count 4", 1);
        due(x, "count 5", 1);
    }

    static void promise42_whatIsRefusedIsNotCounted() {
        RubberSeals x = new RubberSeals();
        calls(x, "row 0 41", "row 1 -1", "text 0 61", "text 1 -1", "stuff 0 0", "seal 0 1 0 100 1", "seal 0 0 0 49 1");
        for (int what = 0; what <= 5; what++) due(x, "count " + what, 0);
    }

    // ---- promise 43: finding

    /** "(0 before any)". */
    static void promise43_beforeAny() {
        RubberSeals x = new RubberSeals();
        calls(x, "row 9 0", "rest", "led", "weakest", "count 9", "findings 0");
        due(x, "finding", 0);
    }

    static void promise43_eachOfTheFive() {
        RubberSeals x = new RubberSeals();
        calls(x, "row 0 0", "seal 0 0 0 100 1");
        dueFinding(x, NOTHING, "tear 1");
        dueFinding(x, BEYOND, "lay 0 0 0");
        dueFinding(x, UNLIKE, "press 0");
        dueFinding(x, NOUGHT, "mean 0");
        dueFinding(x, SIZE, "row 0 -1");
        due(x, "finding", SIZE);
    }

    /** "The latest": it stays behind what is not refused, and behind refusals that are no FINDING. */
    static void promise43_itStays() {
        RubberSeals x = new RubberSeals();
        calls(x, "row 0 0", "lay 0 0 0", "row 0 1", "lay 0 0 5", "row 9 0", "rest", "weakest", "finding", "digest");
        due(x, "finding", BEYOND);
    }

    // ---- promise 44: findings

    /** "a FINDING (1 .. 5)". */
    static void promise44_noSuchFindingIsBad() {
        dueBad(new RubberSeals(), "findings 0", "findings 6", "findings -1", "findings LOW", "findings HIGH");
    }

    static void promise44_noneAtFirst() {
        RubberSeals x = new RubberSeals();
        for (int f = 1; f <= 5; f++) due(x, "findings " + f, 0);
    }

    static void promise44_eachIsCountedByItself() {
        RubberSeals x = new RubberSeals();
        calls(x, "row 0 0", "seal 0 0 0 100 1", "tear 1", "lay 0 0 0", "lay 0 1 0", "press 0", "press 0", "press 0");
        for (int i = 0; i < 4; i++) x.mean(0);
        for (int i = 0; i < 5; i++) x.text(0, -1);
        for (int f = 1; f <= 5; f++) due(x, "findings " + f, f);
    }

    /** "was answered": BAD, STATE, SPENT, NONE are no FINDINGS. */
    static void promise44_otherRefusalsAreNone() {
        RubberSeals x = with("P1:10");
        calls(x, "row 0 6", "seal 0 1 0 100 1", "row 9 0", "led", "choose 1 0 0", "let 2 99", "choose 1 0 1", "text 0 0", "stuff 0 0");
        for (int f = 1; f <= 5; f++) due(x, "findings " + f, 0);
    }

    // ---- promise 45: digest

    private static final int[] NO_STUFFS = {-1, -1, -1, -1, -1, -1};

    private static int[] joined(int[]... parts) {
        int size = 0;
        for (int[] part : parts) size += part.length;
        int[] all = new int[size];
        int at = 0;
        for (int[] part : parts) {
            for (int v : part) all[at++] = v;
        }
        return all;
    }

    private static int[] of(int... values) {
        return values;
    }

    static void promise45_ofANewObject() {
        RubberSeals x = new RubberSeals();
        long want = mixed(joined(of(0, 0, 0, 0, 0, 0), of(0, 20, 0, 0), of(0, -1, 0, -1, 0, -1, 0, -1), NO_STUFFS, of(-1, -1, -1, -1, -1, -1),
            of(-1, -1, -1, -1)));
        due("digest()", x.digest(), want);
        due("digest() again", x.digest(), want);
    }

    /** "size (-1: missing)": an empty one is 0, and has no places. */
    static void promise45_emptyAndMissing() {
        RubberSeals x = new RubberSeals();
        calls(x, "row 1 0", "text 2 0", "row 5 1", "lay 5 0 -1");
        due("digest()", x.digest(), mixed(joined(of(0, 0, 0, 0, 2, 1), of(0, 20, 0, 0), of(0, -1, 0, -1, 0, -1, 0, -1), NO_STUFFS,
            of(-1, 0, -1, -1, -1, 1, -1), of(-1, -1, 0, -1))));
    }

    /** "(-1: it is none)": a PART is no PIECE and no RING, a PIECE no RING. */
    static void promise45_kinds() {
        RubberSeals x = with("P2:30");
        calls(x, "text 3 0", "seal 0 0 5 50 1", "seal 1 1 0 60 2", "seal 2 2 0 100 3", "stretch 2 40", "seal 3 4 0 400 9", "blown 3");
        due("digest()", x.digest(), mixed(joined(of(4, 3, 2, 1, 0, 1), of(0, 20, 0, 0),
            of(0, 0, 50, 50, 1, -1, -1), of(0, 1, 60, 60, 2, 0, -1), of(0, 2, 80, 100, 3, 0, 40), of(0, 4, 400, 400, 9, 0, 0),
            of(1, 0, -99, 0, 0, 2, 30, -1, -1, -1, -1, -1), of(-1, -1, -1, -1, -1, -1), of(-1, -1, -1, 0))));
    }

    /** "about() 0 to 4 and its x, y": four of them, in the last STUFF. */
    static void promise45_aFullStuff() {
        RubberSeals x = new RubberSeals();
        write(x, 0, "P1:2P3:4P5:6P20:999T1C-2W3G4");
        calls(x, "stuff 5 0", "text 0 0");
        due("digest()", x.digest(), mixed(joined(of(0, 0, 0, 1, 0, 1), of(0, 20, 0, 0), of(0, -1, 0, -1, 0, -1, 0, -1),
            of(-1, -1, -1, -1, -1, 4, 1, -2, 3, 4, 1, 2, 3, 4, 5, 6, 20, 999), of(-1, -1, -1, -1, -1, -1), of(0, -1, -1, -1))));
    }

    /** A TEXT's bytes as they are, below 0, too; a ROW's ints at their ends. */
    static void promise45_bytesAndIntsAtTheirEnds() {
        RubberSeals x = new RubberSeals();
        calls(x, "text 0 3", "put 0 0 128", "put 0 1 255", "row 0 2", "lay 0 0 LOW", "lay 0 1 HIGH");
        due("digest()", x.digest(), mixed(joined(of(0, 0, 0, 0, 1, 1), of(0, 20, 0, 0), of(0, -1, 0, -1, 0, -1, 0, -1), NO_STUFFS,
            of(2, LOW, HIGH, -1, -1, -1, -1, -1), of(3, -128, -1, 32, -1, -1, -1))));
    }

    /** Full ROWS and TEXTS: h goes round the longs. */
    static void promise45_fullRowsAndTexts() {
        RubberSeals x = new RubberSeals();
        x.row(5, 40);
        for (int i = 0; i < 40; i++) x.lay(5, i, HIGH - i);
        x.text(3, 60);
        int[] places = new int[41], bytes = new int[61];
        places[0] = 40;
        bytes[0] = 60;
        for (int i = 0; i < 40; i++) places[i + 1] = HIGH - i;
        for (int i = 0; i < 60; i++) bytes[i + 1] = 32;
        due("digest()", x.digest(), mixed(joined(of(0, 0, 0, 0, 1, 1), of(0, 20, 0, 0), of(0, -1, 0, -1, 0, -1, 0, -1), NO_STUFFS,
            of(-1, -1, -1, -1, -1), places, of(-1, -1, -1), bytes)));
    }

    /** THE LID's settings and DEPTHS at their ends. */
    static void promise45_settingsAtTheirEnds() {
        RubberSeals x = new RubberSeals();
        calls(x, "let 0 99999", "let 1 -99", "let 2 9999", "let 3 99", "depth 0 200", "depth 3 1");
        due("digest()", x.digest(), mixed(joined(of(0, 0, 0, 0, 0, 0), of(99999, -99, 9999, 99), of(200, -1, 0, -1, 0, -1, 1, -1), NO_STUFFS,
            of(-1, -1, -1, -1, -1, -1), of(-1, -1, -1, -1))));
    }

    /** What was taken or torn leaves no trace; what was told and found is not looked at. */
    static void promise45_noTraceIsLeft() {
        RubberSeals x = with("P1:10");
        x.text(3, 0);
        long digest = x.digest();
        calls(x, "seal 0 2 0 100 1", "stretch 0 9", "row 0 9", "lay 0 0 7", "tear 0", "take 0", "tear 0", "row 9 9", "push 0 9", "about 0 2");
        due("digest()", x.digest(), digest);
    }
}
