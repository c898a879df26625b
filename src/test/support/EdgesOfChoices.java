/** Boundary cases of promises 33 to 38: strips, partings, batches, causes, choices, sniffs. */
final class EdgesOfChoices extends Bench {

    // ---- promise 33: strip

    private static RubberSeals strip(int... pairs) {
        RubberSeals x = with("P1:10", "P3:10");
        layAll(x, 0, pairs);
        return x;
    }

    static void promise33_noSuchRowIsBad() {
        dueBad(strip(1, 10), "strip -1 0", "strip 6 0", "strip LOW 0", "strip HIGH 0");
    }

    /** "off by k (0 .. 99) at most". */
    static void promise33_kBelow0OrAbove99IsBad() {
        dueBad(strip(1, 10), "strip 0 -1", "strip 0 100", "strip 0 LOW", "strip 0 HIGH");
    }

    static void promise33_aMissingRowIsNothing() {
        dueFinding(strip(1, 10), NOTHING, "strip 1 0", "strip 5 99");
    }

    static void promise33_badAheadOfNothing() {
        dueBad(strip(1, 10), "strip 1 100", "strip 1 -1");
    }

    /** "SIZE: not by twos". */
    static void promise33_notByTwosIsSize() {
        dueFinding(strip(1), SIZE, "strip 0 0");
        dueFinding(strip(1, 10, 2), SIZE, "strip 0 0");
        RubberSeals x = strip();
        x.row(0, 39);
        dueFinding(x, SIZE, "strip 0 0");
    }

    /** "SIZE: .. none". */
    static void promise33_noneIsSize() {
        dueFinding(strip(), SIZE, "strip 0 0");
    }

    /** "UNLIKE: a u": "u 0 .. 20". */
    static void promise33_aUThatIsNoneIsUnlike() {
        dueFinding(strip(-1, 10), UNLIKE, "strip 0 0");
        dueFinding(strip(21, 10), UNLIKE, "strip 0 0");
        dueFinding(strip(1, 10, 2, 20, HIGH, 30), UNLIKE, "strip 0 0");
    }

    /** "UNLIKE: .. a push": "a push 0 .. 9999". */
    static void promise33_aPushThatIsNoneIsUnlike() {
        dueFinding(strip(1, -1), UNLIKE, "strip 0 0");
        dueFinding(strip(1, 10000), UNLIKE, "strip 0 0");
        dueFinding(strip(1, 10, 2, 20, 3, LOW), UNLIKE, "strip 0 0");
    }

    static void promise33_sizeAheadOfUnlike() {
        dueFinding(strip(99, -1, 99), SIZE, "strip 0 0");
    }

    /** Refused also where a pair ahead keeps no STUFF. */
    static void promise33_unlikeBehindAPairThatKeepsNone() {
        dueFinding(strip(1, 9999, 21, 10), UNLIKE, "strip 0 0");
    }

    static void promise33_squeezedBy0() {
        due(strip(0, 0), "strip 0 0", 3);
        due(strip(0, 1), "strip 0 0", 0);
        due(strip(0, 99), "strip 0 99", 3);
        due(strip(0, 100), "strip 0 99", 0);
    }

    static void promise33_squeezedBy20() {
        due(strip(20, 200), "strip 0 0", 1);
        due(strip(20, 299), "strip 0 99", 1);
        due(strip(20, 300), "strip 0 99", 0);
    }

    static void promise33_theGreatestPush() {
        RubberSeals x = with("P1:500", "P1:495");
        layAll(x, 0, 20, 9999);
        due(x, "strip 0 0", 0);
        due(x, "strip 0 1", 1);
        due(x, "strip 0 98", 1);
        due(x, "strip 0 99", 3);
    }

    /** "is off what was measured by k at most": less and more, just k and one more. */
    static void promise33_offByJustK() {
        due(strip(1, 15), "strip 0 5", 1);
        due(strip(1, 15), "strip 0 4", 0);
        due(strip(2, 13), "strip 0 7", 3);
        due(strip(2, 13), "strip 0 6", 0);
    }

    /** 10 thirds are off 3 by a third, and off 4 by 2 thirds: more than 0. */
    static void promise33_offByAPartOfOne() {
        due(strip(1, 3), "strip 0 0", 0);
        due(strip(1, 3), "strip 0 1", 2);
        due(strip(1, 4), "strip 0 0", 0);
        due(strip(1, 4), "strip 0 1", 2);
        due(strip(1, 5), "strip 0 1", 0);
        due(strip(1, 5), "strip 0 2", 2);
    }

    /** "at each u": 20 pairs, of which the last one parts them. */
    static void promise33_aFullRowOfPairs() {
        RubberSeals x = with("P1:10", "P1:10P19:190P20:201");
        x.row(0, 40);
        for (int i = 0; i < 20; i++) {
            x.lay(0, 2 * i, i);
            x.lay(0, 2 * i + 1, 10 * i);
        }
        due(x, "strip 0 0", 3);
        calls(x, "lay 0 38 20", "lay 0 39 200");
        due(x, "strip 0 0", 1);
    }

    static void promise33_noStuffs() {
        RubberSeals x = new RubberSeals();
        layAll(x, 0, 0, 0);
        due(x, "strip 0 99", 0);
    }

    /** "STUFFS (that are there)": the first and the last, and none between. */
    static void promise33_theFirstAndTheLastStuff() {
        RubberSeals x = with("P1:10");
        calls(x, "stuff 5 3", "row 0 2");
        due(x, "strip 0 0", 33);
    }

    static void promise33_nothingIsChanged() {
        RubberSeals x = strip(1, 15);
        long digest = x.digest();
        x.strip(0, 5);
        due("digest()", x.digest(), digest);
    }

    // ---- promise 34: parting

    static void promise34_bitsThatAreNoneAreBad() {
        RubberSeals x = with("P1:1", "P1:2", "P1:3", "P1:4", "P1:5", "P1:6");
        dueBad(x, "parting 64", "parting 67", "parting -1", "parting LOW", "parting HIGH");
    }

    /** "BAD: also fewer than two": none, and one, which may be missing. */
    static void promise34_fewerThanTwoAreBad() {
        dueBad(with("P1:1", "P1:2"), "parting 0", "parting 1", "parting 2", "parting 32");
    }

    /** "NOTHING: one of them is missing". */
    static void promise34_oneThatIsMissingIsNothing() {
        dueFinding(with("P1:1", "P1:2"), NOTHING, "parting 5", "parting 33", "parting 7", "parting 48", "parting 63");
    }

    /** "NOTHING: one of them is missing": the first of all STUFFS, too. */
    static void promise34_theFirstStuffIsMissing() {
        RubberSeals x = new RubberSeals();
        write(x, 0, "P1:1");
        calls(x, "stuff 1 0", "stuff 2 0");
        dueFinding(x, NOTHING, "parting 3", "parting 7");
        dueAsked(x, "parting 6", 1, 0);
    }

    static void promise34_allSix() {
        RubberSeals x = with("P1:1", "P1:2", "P1:3", "P1:4", "P1:5", "P1:6");
        dueAsked(x, "parting 63", 20, 100);
        dueAsked(x, "parting 33", 20, 100);
        dueAsked(x, "parting 48", 20, 20);
    }

    /** "the first of alike ones": as far at all. */
    static void promise34_alikeEverywhere() {
        RubberSeals x = with("P2:10", "P2:10P4:20", "P1:10", "P1:20P2:30");
        dueAsked(x, "parting 3", 1, 0);
        dueAsked(x, "parting 12", 1, 10);
    }

    /** "the u (1 .. 20)": farthest at the last one, though farther beyond it. */
    static void promise34_atTheLast() {
        dueAsked(with("P1:10", "P1:11"), "parting 3", 20, 20);
    }

    static void promise34_inTheMiddle() {
        dueAsked(with("P1:10", "P5:500P6:501"), "parting 3", 5, 450);
    }

    /** First one is above, then the other: as far both times. */
    static void promise34_theFirstOfTwoFarthest() {
        RubberSeals x = with("P5:100P15:200", "P5:50P15:250P16:251");
        dueAsked(x, "parting 3", 5, 50);
    }

    /** "how far, cut": u by 19 is 1 at 19, and more than that at 20. */
    static void promise34_cutAloneWhenTold() {
        dueAsked(with("P19:1", "P19:2"), "parting 3", 20, 1);
    }

    /** "the greatest PUSH .. the least": of three, whichever of them these are. */
    static void promise34_ofThree() {
        RubberSeals x = with("P1:10", "P1:1P2:40P3:41", "P1:12P2:13");
        // At 2: 20, 40, 13; at 3: 30, 41, 14; beyond that 10, 1, 1 more a step.
        dueAsked(x, "parting 7", 20, 200 - 31);
        dueAsked(x, "parting 6", 2, 27);
    }

    // ---- promise 35: batch

    /** "A BATCH of n (1 .. 40)". */
    static void promise35_aSizeThatIsNoneIsBad() {
        dueBad(new RubberSeals(), "batch 0 0 1 0", "batch 41 0 1 0", "batch -1 0 1 0", "batch LOW 0 1 0", "batch HIGH 0 1 0");
    }

    /** "BAD: b 0 .. n". */
    static void promise35_badOnesThatAreNoneAreBad() {
        dueBad(new RubberSeals(), "batch 5 -1 1 0", "batch 5 6 1 0", "batch 5 LOW 1 0", "batch 5 HIGH 1 0");
    }

    /** "m (1 .. 10)". */
    static void promise35_looksThatAreNoneAreBad() {
        dueBad(new RubberSeals(), "batch 40 5 0 0", "batch 40 5 11 0", "batch 40 5 -1 0", "batch 40 5 LOW 0", "batch 40 5 HIGH 0");
    }

    /** "m no more than n". */
    static void promise35_moreLooksThanThereAreIsBad() {
        RubberSeals x = new RubberSeals();
        dueBad(x, "batch 5 2 6 0", "batch 1 0 2 0", "batch 9 2 10 0");
        due(x, "batch 5 2 5 0", 1);
        due(x, "batch 1 0 1 0", 1);
        due(x, "batch 10 2 10 0", 1);
    }

    /** "a 0 .. m". */
    static void promise35_anAThatIsNoneIsBad() {
        dueBad(new RubberSeals(), "batch 5 2 2 -1", "batch 5 2 2 3", "batch 5 2 2 LOW", "batch 5 2 2 HIGH");
    }

    static void promise35_noBadOnes() {
        dueFraction(new RubberSeals(), "batch 40 0 10 0", 1, 1, 1);
    }

    static void promise35_allAreBad() {
        RubberSeals x = new RubberSeals();
        dueFraction(x, "batch 40 40 10 9", 1, 0, 1);
        dueFraction(x, "batch 40 40 10 10", 1, 1, 1);
    }

    /** "no more than a of these": a is as many as are looked at. */
    static void promise35_noMoreThanAll() {
        RubberSeals x = new RubberSeals();
        dueFraction(x, "batch 7 3 4 4", 1, 1, 1);
        dueFraction(x, "batch 7 3 4 3", 1, 1, 1);
        dueFraction(x, "batch 7 3 4 2", 1, 31, 35);
    }

    static void promise35_noneOfThese() {
        RubberSeals x = new RubberSeals();
        dueFraction(x, "batch 7 3 4 0", 1, 1, 35);
        dueFraction(x, "batch 7 4 4 0", 1, 0, 1);
    }

    static void promise35_theSmallestBatch() {
        RubberSeals x = new RubberSeals();
        dueFraction(x, "batch 1 0 1 0", 1, 1, 1);
        dueFraction(x, "batch 1 1 1 0", 1, 0, 1);
        dueFraction(x, "batch 1 1 1 1", 1, 1, 1);
    }

    /** "exact odds" of the greatest numbers there are: C(20, 10) by C(40, 10), and all but that. */
    static void promise35_theGreatestBatch() {
        RubberSeals x = new RubberSeals();
        dueRatio(x, "batch 40 20 10 0", 1, 184756, 847660528);
        dueRatio(x, "batch 40 20 10 9", 1, 847660528 - 184756, 847660528);
        dueFraction(x, "batch 40 20 10 5", 1, 210533, 328042);
    }

    // ---- promise 36: led

    /** A RING of 100 that pushes 10 a step, pushed onto a PART. */
    private static RubberSeals onAPart(String stuff, int part, String... more) {
        RubberSeals x = with(stuff);
        x.seal(0, 2, 0, 100, 1);
        x.seal(1, 0, 0, part, 1);
        x.let(0, 99999);
        calls(x, more);
        return x;
    }

    /** "STATE: nothing OPENS". */
    static void promise36_nothingOpensIsState() {
        RubberSeals x = new RubberSeals();
        x.let(2, 9999);
        dueState(x, "led");
        x.seal(0, 0, 0, 100, 1);
        dueState(x, "led");
        x = onAPart("P1:10", 95);
        dueState(x, "led");
        x.let(2, 50);
        dueState(x, "led");
        x.let(2, 51);
        due(x, "led", 4);
    }

    /** "those by which alone nothing would OPEN": there may be none. */
    static void promise36_noneWould() {
        due(onAPart("P1:10T99C30", 95, "stretch 0 8", "age 1", "let 2 9999"), "led", 0);
    }

    /** "2 PRESSURE (half of it, cut)". */
    static void promise36_halfOfThePressureCut() {
        RubberSeals x = onAPart("P1:10", 95, "let 2 100");
        due(x, "led", 4);
        x.let(2, 101);
        due(x, "led", 4);
        x.let(2, 102);
        due(x, "led", 0);
    }

    /** Half of 1, cut, is 0: nothing is less. */
    static void promise36_halfOf1() {
        due(onAPart("P1:10", 100, "let 2 1"), "led", 4);
        due(onAPart("P1:10", 100, "let 2 2"), "led", 0);
    }

    /** "0 SET (all FREE HEIGHTS as if nothing had AGED": just enough, and one too much. */
    static void promise36_set() {
        RubberSeals x = onAPart("P1:10T99", 90, "age 9");
        dueFree(x, 90);
        x.let(2, 100);
        due(x, "led", 1);
        x.let(2, 101);
        due(x, "led", 0);
    }

    /** "STRETCHED as it is": what the stretch took does not come back by SET. */
    static void promise36_setStretchedAsItIs() {
        RubberSeals x = onAPart("P1:10T99", 90, "stretch 0 10", "age 9", "let 2 50");
        dueFree(x, 90);
        due(x, "led", 1 + 8);
        x.let(2, 51);
        due(x, "led", 0);
    }

    /** "more than now alone": what has swollen is not made lower. */
    static void promise36_setMoreThanNowAlone() {
        RubberSeals x = with("P1:10W50", "P1:10T99");
        calls(x, "seal 0 1 0 100 1", "seal 1 1 1 110 1", "seal 2 0 0 90 1", "let 0 99999", "age 1", "swell", "let 2 110");
        dueFree(x, 105, 91);
        due(x, "opens", 2);
        // PLACE 1 would press 200 again; PLACE 0, made lower, would press 100 and open.
        due(x, "led", 1);
        x.let(2, 150);
        due(x, "led", 1);
        x.let(2, 151);
        due(x, "led", 0);
    }

    /** "1 the cold (DEGREES 20)": a stiff one bears all, a soft one opens. */
    static void promise36_theCold() {
        RubberSeals x = with("P1:10C20", "P1:10");
        calls(x, "seal 0 1 0 100 1", "seal 1 1 1 100 1", "let 0 40", "let 1 19", "let 2 20");
        due(x, "led", 2 + 4);
        x.let(2, 21);
        due(x, "led", 4);
        x.let(1, 20);
        due(x, "led", 4);
    }

    /** A STUFF whose COLD is above 20 stays cold at 20. */
    static void promise36_coldAt20() {
        RubberSeals x = with("P1:10C21", "P1:10");
        calls(x, "seal 0 1 0 100 1", "seal 1 1 1 100 1", "let 0 40", "let 1 -99", "let 2 20");
        due(x, "led", 4);
    }

    /** Warmer than 20: DEGREES 20 may make it cold, by which it presses more. */
    static void promise36_warmerThan20() {
        RubberSeals x = onAPart("P1:10C21", 95, "let 1 21", "let 2 150");
        due(x, "opens", 1);
        due(x, "led", 2);
        x.let(2, 151);
        due(x, "led", 0);
        x = onAPart("P1:10C20", 95, "let 1 21", "let 2 150");
        due(x, "led", 0);
    }

    /** "3 the stretch": just enough, and one too much. */
    static void promise36_theStretch() {
        RubberSeals x = onAPart("P1:10", 80, "stretch 0 40", "let 2 200");
        dueFree(x, 80);
        due(x, "led", 8);
        x.let(2, 201);
        due(x, "led", 0);
    }

    /** "HEIGHT less HEIGHT times (200 less v) by 200, cut": 101 stretched by 1 has lost 1. */
    static void promise36_theStretchCut() {
        RubberSeals x = onAPart("P1:10", 90, "seal 0 2 0 101 1", "stretch 0 1", "let 2 110");
        dueFree(x, 100);
        due(x, "led", 4 + 8);
        x.let(2, 111);
        due(x, "led", 4);
    }

    /** "FREE HEIGHTS of RINGS": LIPS and BACKED ones, too. */
    static void promise36_theStretchOfALipAndABackedOne() {
        for (int kind = 2; kind <= 4; kind++) {
            RubberSeals x = onAPart("P1:10", 80, "seal 0 " + kind + " 0 100 1", "stretch 0 40", "let 2 200");
            due(x, "led", 8);
        }
    }

    /** A PIECE, or a RING that is not STRETCHED, gets nothing by the stretch. */
    static void promise36_notStretched() {
        due(onAPart("P1:10", 90, "let 2 202"), "led", 0);
        due(onAPart("P1:10", 90, "seal 0 1 0 100 1", "let 2 202"), "led", 0);
    }

    /** "nothing would OPEN": one of two that stays open is enough. */
    static void promise36_allMustClose() {
        RubberSeals x = with("P1:10T99");
        calls(x, "seal 0 1 0 100 1", "seal 1 1 0 100 1", "seal 2 0 0 90 1", "let 0 99999", "age 9", "let 2 100");
        due(x, "led", 1);
        x.depth(1, 1);
        due(x, "led", 0);
    }

    /** By each of the four alone. */
    static void promise36_allFour() {
        RubberSeals x = onAPart("P1:10T50C21", 80, "stretch 0 20", "let 1 21", "age 1", "let 2 60");
        dueFree(x, 85);
        due(x, "opens", 1);
        due(x, "led", 15);
    }

    static void promise36_nothingIsChanged() {
        RubberSeals x = onAPart("P1:10T50C21", 80, "stretch 0 20", "let 1 21", "age 1", "let 2 60", "push 0 1");
        long digest = x.digest();
        int asked = x.asked();
        x.led();
        due("digest()", x.digest(), digest);
        due("asked()", x.asked(), asked);
        due(x, "upper", 10);
    }

    // ---- promise 37: choose

    /** Two SEALS that press alike, six STUFFS alike but for the prices. */
    private static RubberSeals toChoose(int... prices) {
        RubberSeals x = with("P1:10", "P1:10", "P1:10", "P1:10", "P1:10", "P1:10");
        calls(x, "seal 0 1 0 100 1", "seal 3 2 0 100 2", "let 0 30");
        layAll(x, 0, prices);
        return x;
    }

    /** "BAD: bits, none". */
    static void promise37_bitsThatAreNoneAreBad() {
        dueBad(toChoose(1, 2, 3, 4, 5, 6), "choose 64 0 9", "choose 65 0 9", "choose -1 0 9", "choose LOW 0 9", "choose 0 0 9");
    }

    static void promise37_noSuchRowIsBad() {
        dueBad(toChoose(1, 2, 3, 4, 5, 6), "choose 1 -1 9", "choose 1 6 9", "choose 1 LOW 9", "choose 1 HIGH 9");
    }

    /** "turns (0 .. 1296)". */
    static void promise37_turnsThatAreNoneAreBad() {
        dueBad(toChoose(1, 2, 3, 4, 5, 6), "choose 1 0 -1", "choose 1 0 1297", "choose 1 0 LOW", "choose 1 0 HIGH");
    }

    /** "NOTHING: one of them". */
    static void promise37_aMissingStuffIsNothing() {
        RubberSeals x = with("P1:10", "P1:20");
        layAll(x, 0, 1, 2, 3, 4, 5, 6);
        dueFinding(x, NOTHING, "choose 4 0 9", "choose 32 0 9", "choose 7 0 9", "choose 63 0 1296");
    }

    /** "NOTHING: one of them": the first of all STUFFS, too. */
    static void promise37_theFirstStuffIsMissing() {
        RubberSeals x = new RubberSeals();
        write(x, 0, "P1:10");
        calls(x, "stuff 1 0", "row 0 6");
        dueFinding(x, NOTHING, "choose 1 0 1", "choose 3 0 1");
        due(x, "choose 2 0 1", 0);
    }

    /** "NOTHING: .. the ROW". */
    static void promise37_aMissingRowIsNothing() {
        dueFinding(toChoose(1, 2, 3, 4, 5, 6), NOTHING, "choose 1 1 9", "choose 63 5 1296");
    }

    /** "SIZE: not six". */
    static void promise37_notSixPricesIsSize() {
        dueFinding(toChoose(1, 2, 3, 4, 5), SIZE, "choose 1 0 9");
        dueFinding(toChoose(1, 2, 3, 4, 5, 6, 7), SIZE, "choose 1 0 9");
        dueFinding(toChoose(), SIZE, "choose 1 0 9");
    }

    /** "UNLIKE: a price": "prices (0 .. 999)", of STUFFS that are not in the set, too. */
    static void promise37_aPriceThatIsNoneIsUnlike() {
        dueFinding(toChoose(-1, 2, 3, 4, 5, 6), UNLIKE, "choose 1 0 9", "choose 2 0 9");
        dueFinding(toChoose(1, 2, 3, 4, 5, 1000), UNLIKE, "choose 1 0 9", "choose 32 0 9");
        dueFinding(toChoose(1, 2, LOW, 4, 5, 6), UNLIKE, "choose 1 0 9");
        dueFinding(toChoose(1, 2, HIGH, 4, 5, 6), UNLIKE, "choose 1 0 9");
    }

    static void promise37_sizeAheadOfUnlike() {
        dueFinding(toChoose(-1, 2, 3, 4, 5), SIZE, "choose 1 0 9");
    }

    /** "SPENT: more ways than turns": as many are enough. */
    static void promise37_moreWaysThanTurnsIsSpent() {
        RubberSeals x = toChoose(1, 2, 3, 4, 5, 6);
        dueSpent(x, "choose 7 0 8", "choose 3 0 3", "choose 63 0 35", "choose 1 0 0");
        due(x, "choose 7 0 9", 3);
        due(x, "choose 3 0 4", 3);
        due(x, "choose 63 0 36", 3);
        due(x, "choose 1 0 1", 3);
    }

    /** "(0 .. 1296)": six STUFFS in four PLACES are just so many ways. */
    static void promise37_the1296Ways() {
        RubberSeals x = toChoose(9, 8, 7, 6, 5, 4);
        calls(x, "seal 1 3 0 100 1", "seal 2 4 0 100 1");
        dueSpent(x, "choose 63 0 1295");
        dueAsked(x, "choose 63 0 1296", 20, 6666);
    }

    /** "(SPENT last.)": behind NOTHING, SIZE, UNLIKE. */
    static void promise37_spentLast() {
        RubberSeals x = with("P1:10");
        calls(x, "seal 0 1 0 100 1", "row 1 5", "row 2 6", "lay 2 0 -1");
        dueFinding(x, NOTHING, "choose 2 2 0", "choose 1 0 0");
        dueFinding(x, SIZE, "choose 1 1 0");
        dueFinding(x, UNLIKE, "choose 1 2 0");
        x.lay(2, 0, 0);
        dueSpent(x, "choose 1 2 0");
    }

    /** Without RUBBER there is one way: none is chosen. */
    static void promise37_withoutRubber() {
        RubberSeals x = toChoose(1, 2, 3, 4, 5, 6);
        calls(x, "take 0", "seal 3 0 0 100 1", "let 2 9999", "told 3 2");
        dueSpent(x, "choose 63 0 0");
        dueAsked(x, "choose 63 0 1", 0, 0);
    }

    /** "NONE: none hold". */
    static void promise37_noneHold() {
        RubberSeals x = toChoose(1, 2, 3, 4, 5, 6);
        x.let(2, 11);
        dueNone(x, "choose 63 0 36", "choose 1 0 1");
    }

    /** "so that none OPENS": those that press as much as PRESSURE hold. */
    static void promise37_asMuchAsPressureHolds() {
        RubberSeals x = toChoose(1, 2, 3, 4, 5, 6);
        x.let(2, 10);
        dueAsked(x, "choose 63 0 36", 3, 1001);
    }

    /** "of alike ones the first by PLACES". */
    static void promise37_theFirstOfAlikeOnes() {
        dueAsked(toChoose(5, 5, 5, 5, 5, 5), "choose 63 0 36", 15, 1001);
        dueAsked(toChoose(5, 5, 5, 5, 5, 5), "choose 48 0 4", 15, 5005);
        dueAsked(toChoose(5, 5, 1, 5, 1, 5), "choose 63 0 36", 3, 3003);
    }

    /** "of alike ones": the first that hold. */
    static void promise37_theFirstThatHold() {
        RubberSeals x = with("P1:10", "P1:20");
        calls(x, "seal 0 1 0 100 1", "seal 1 1 0 100 1", "seal 2 0 0 99 1", "let 0 99999", "let 2 10");
        layAll(x, 0, 1, 1, 0, 0, 0, 0);
        dueAsked(x, "choose 3 0 4", 2, 11);
        x.let(2, 20);
        dueAsked(x, "choose 3 0 4", 2, 22);
        x.let(2, 21);
        dueNone(x, "choose 3 0 4");
    }

    /** "the first by PLACES": PLACE 0 counts ahead of PLACE 1. */
    static void promise37_place0CountsFirst() {
        RubberSeals x = with("P1:20", "P1:30", "P1:10");
        calls(x, "seal 0 1 0 100 1", "seal 1 1 0 100 1", "depth 1 2", "let 0 140", "let 2 60");
        layAll(x, 0, 1, 1, 1, 0, 0, 0);
        // STUFFS 0 and 1 press 80 and 60, 2 and 0 press 60 and 80, 2 and 2 press 80 and 60; no others hold.
        dueAsked(x, "choose 7 0 9", 2, 21);
    }

    /** "the least sum of prices times AREAS": of 0, and of the greatest there are. */
    static void promise37_theLeastAndTheGreatestSum() {
        dueAsked(toChoose(0, 999, 999, 999, 999, 999), "choose 63 0 36", 0, 1001);
        RubberSeals x = toChoose(999, 999, 999, 999, 999, 999);
        for (int p = 0; p < 4; p++) x.seal(p, 1, 0, 400, 9);
        dueAsked(x, "choose 32 0 1", 4 * 9 * 999, 6666);
    }

    /** A dearer STUFF at a small AREA is cheaper than at a great one. */
    static void promise37_byAreas() {
        RubberSeals x = with("P1:10", "P1:20");
        calls(x, "seal 0 1 0 100 1", "seal 1 1 0 101 9", "seal 2 0 0 99 1", "let 0 99999", "let 2 20");
        layAll(x, 0, 1, 100, 0, 0, 0, 0);
        // PLACE 0 is squeezed by 1 and needs the dear one, PLACE 1 by 2 and does not.
        dueAsked(x, "choose 3 0 4", 109, 12);
        calls(x, "seal 0 1 0 101 1", "seal 1 1 0 100 9");
        dueAsked(x, "choose 3 0 4", 901, 21);
    }

    /** "(0: not RUBBER)": a PART, and a PLACE without a SEAL. */
    static void promise37_0WhereThereIsNoRubber() {
        RubberSeals x = toChoose(1, 2, 3, 4, 5, 6);
        x.seal(1, 0, 0, 50, 9);
        dueAsked(x, "choose 32 0 1", 18, 6006);
    }

    static void promise37_theSealsKeepTheirs() {
        RubberSeals x = toChoose(9, 8, 7, 6, 5, 4);
        long digest = x.digest();
        x.choose(63, 0, 36);
        due("digest()", x.digest(), digest);
        due(x, "mark 3 1", 0);
    }

    // ---- promise 38: sniff

    private static void dueSniffed(int k, int want, int... sniffs) {
        RubberSeals x = new RubberSeals();
        layAll(x, 5, sniffs);
        due(x, "sniff 5 " + k, want);
    }

    private static RubberSeals sniffs(int... sniffs) {
        RubberSeals x = new RubberSeals();
        layAll(x, 0, sniffs);
        return x;
    }

    static void promise38_noSuchRowIsBad() {
        dueBad(sniffs(1, 0, 0, 0), "sniff -1 0", "sniff 6 0", "sniff LOW 0", "sniff HIGH 0");
    }

    /** "off by k (0 .. 99) at most". */
    static void promise38_kBelow0OrAbove99IsBad() {
        dueBad(sniffs(1, 0, 0, 0), "sniff 0 -1", "sniff 0 100", "sniff 0 LOW", "sniff 0 HIGH");
    }

    static void promise38_aMissingRowIsNothing() {
        dueFinding(sniffs(1, 0, 0, 0), NOTHING, "sniff 1 0", "sniff 5 99");
    }

    static void promise38_badAheadOfNothing() {
        dueBad(sniffs(1, 0, 0, 0), "sniff 1 100", "sniff 1 -1");
    }

    /** "SIZE: not four". */
    static void promise38_notFourIsSize() {
        dueFinding(sniffs(), SIZE, "sniff 0 0");
        dueFinding(sniffs(1, 0, 0), SIZE, "sniff 0 0");
        dueFinding(sniffs(1, 0, 0, 0, 0), SIZE, "sniff 0 0");
    }

    /** "UNLIKE: a SNIFF below 0 or above 9999". */
    static void promise38_aSniffThatIsNoneIsUnlike() {
        dueFinding(sniffs(-1, 0, 0, 0), UNLIKE, "sniff 0 0");
        dueFinding(sniffs(0, 0, 0, 10000), UNLIKE, "sniff 0 0");
        dueFinding(sniffs(0, LOW, 0, 0), UNLIKE, "sniff 0 99");
        dueFinding(sniffs(0, 0, HIGH, 0), UNLIKE, "sniff 0 99");
        dueSniffed(99, 0, 9999, 9999, 9999, 9999);
    }

    static void promise38_sizeAheadOfUnlike() {
        dueFinding(sniffs(-1, 0, 0), SIZE, "sniff 0 0");
        dueFinding(sniffs(0, 0, 0, 0, 10000), SIZE, "sniff 0 0");
    }

    /** "A LEAK of q (1 .. 999)": the least one, at each PLACE. */
    static void promise38_aLeakOf1() {
        dueSniffed(0, 1, 1, 0, 0, 0);
        dueSniffed(0, 2, 0, 1, 0, 0);
        dueSniffed(0, 4, 0, 0, 1, 0);
        dueSniffed(0, 8, 0, 0, 0, 1);
    }

    /** A leak of 0 is none. */
    static void promise38_aLeakOf0IsNone() {
        dueSniffed(0, 0, 0, 0, 0, 0);
        dueSniffed(1, 15, 0, 0, 0, 0);
    }

    /** "A LEAK of q (1 .. 999)": the greatest one, and no greater. */
    static void promise38_aLeakOf999() {
        dueSniffed(0, 1, 999, 499, 333, 249);
        dueSniffed(0, 8, 249, 333, 499, 999);
        dueSniffed(0, 0, 1000, 500, 333, 250);
        dueSniffed(1, 1, 1000, 500, 333, 250);
        dueSniffed(99, 1, 1098, 499, 333, 249);
        dueSniffed(99, 0, 1099, 499, 333, 249);
    }

    /** "as q by (j and 1), cut". */
    static void promise38_cut() {
        dueSniffed(0, 1, 7, 3, 2, 1);
        dueSniffed(0, 0, 7, 4, 2, 1);
        dueSniffed(0, 0, 7, 3, 3, 1);
        dueSniffed(0, 0, 7, 3, 2, 2);
    }

    /** "off by k .. at most": at one of the four by one more. */
    static void promise38_offByJustK() {
        dueSniffed(5, 1, 105, 45, 38, 20);
        dueSniffed(4, 0, 105, 45, 38, 20);
        dueSniffed(5, 0, 106, 44, 38, 20);
    }

    /** "PLACES at which one leak could be": several at once. */
    static void promise38_severalPlaces() {
        dueSniffed(7, 6, 10, 20, 20, 10);
        dueSniffed(6, 0, 10, 20, 20, 10);
    }

    static void promise38_theSealsDoNotCount() {
        RubberSeals x = with("P1:10");
        calls(x, "seal 0 1 0 100 1", "seal 1 0 0 100 1", "let 2 9999");
        layAll(x, 0, 0, 0, 1, 0);
        due(x, "sniff 0 0", 4);
    }
}
