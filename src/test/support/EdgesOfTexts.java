/** Boundary cases of promises 7 to 12: texts, stuffs. */
final class EdgesOfTexts extends Bench {

    // ---- promise 7: text

    /** "rows of 0 to 60 bytes": none. */
    static void promise07_anEmptyTextIsThere() {
        RubberSeals x = new RubberSeals();
        due(x, "text 0 0", 0);
        due(x, "count 5", 1);
        dueFinding(x, BEYOND, "put 0 0 65");
    }

    /** "rows of 0 to 60 bytes": sixty. */
    static void promise07_aFullTextHas60() {
        RubberSeals x = new RubberSeals();
        due(x, "text 0 60", 60);
        due(x, "put 0 59 65", 1032);
        dueFinding(x, BEYOND, "put 0 60 65");
    }

    /** "TEXTS 0 .. 3": the first and the last. */
    static void promise07_theFirstAndTheLastText() {
        RubberSeals x = new RubberSeals();
        due(x, "text 0 1", 1);
        due(x, "text 3 2", 2);
        due(x, "count 5", 2);
    }

    static void promise07_noSuchTextIsBad() {
        dueBad(new RubberSeals(), "text -1 1", "text 4 1", "text LOW 1", "text HIGH 1");
    }

    /** "BAD: also n above 60". */
    static void promise07_above60IsBad() {
        RubberSeals x = new RubberSeals();
        dueBad(x, "text 0 61", "text 3 61", "text 0 HIGH");
        due(x, "count 5", 0);
    }

    /** "SIZE: below 0". */
    static void promise07_below0IsSize() {
        RubberSeals x = new RubberSeals();
        dueFinding(x, SIZE, "text 0 -1", "text 3 LOW");
        due(x, "count 5", 0);
    }

    static void promise07_badAheadOfSize() {
        dueBad(new RubberSeals(), "text -1 -1", "text 4 -1", "text 4 LOW");
    }

    static void promise07_refusedLeavesTheOldText() {
        RubberSeals x = new RubberSeals();
        write(x, 1, "AB");
        dueBad(x, "text 1 61");
        dueFinding(x, SIZE, "text 1 -1");
        due(x, "put 1 1 67", 1066);
    }

    /** "there with n blanks", whatever stood there. */
    static void promise07_anewAllAreBlanks() {
        RubberSeals x = new RubberSeals();
        write(x, 1, "ABC");
        calls(x, "text 1 1", "text 1 3");
        for (int i = 0; i < 3; i++) due(x, "put 1 " + i + " 65", 1032);
    }

    // ---- promise 8: put

    static void promise08_theFirstAndTheLastByte() {
        RubberSeals x = new RubberSeals();
        write(x, 0, "ABC");
        due(x, "put 0 0 88", 1065);
        due(x, "put 0 2 89", 1067);
        due(x, "put 0 0 0", 1088);
        due(x, "put 0 2 0", 1089);
        due(x, "put 0 1 0", 1066);
    }

    /** "cut to a byte": 127 is the greatest one, 128 wraps around to the least. */
    static void promise08_127And128() {
        RubberSeals x = new RubberSeals();
        x.text(0, 1);
        due(x, "put 0 0 127", 1032);
        due(x, "put 0 0 128", 1127);
        due(x, "put 0 0 -128", 872);
        due(x, "put 0 0 -129", 872);
        due(x, "put 0 0 0", 1127);
    }

    /** "cut to a byte": 255 and 256 wrap around to -1 and 0. */
    static void promise08_255And256() {
        RubberSeals x = new RubberSeals();
        x.text(0, 1);
        due(x, "put 0 0 255", 1032);
        due(x, "put 0 0 256", 999);
        due(x, "put 0 0 300", 1000);
        due(x, "put 0 0 -1", 1044);
        due(x, "put 0 0 0", 999);
    }

    static void promise08_theEndsOfAnInt() {
        RubberSeals x = new RubberSeals();
        x.text(0, 1);
        due(x, "put 0 0 HIGH", 1032);
        due(x, "put 0 0 LOW", 999);
        due(x, "put 0 0 0", 1000);
    }

    /** What was cut to a byte is read as that byte. */
    static void promise08_aLetterBehindAWrapAround() {
        RubberSeals x = new RubberSeals();
        write(x, 0, "P1:1");
        due(x, "put 0 0 " + (256 + 'P'), 1000 + 'P');
        due(x, "put 0 3 " + ('7' - 256), 1000 + '1');
        due(x, "fault 0", NONE);
        due(x, "stuff 0 0", 1);
        dueFraction(x, "push 0 1", 1, 7, 1);
    }

    static void promise08_noSuchTextIsBad() {
        dueBad(new RubberSeals(), "put -1 0 65", "put 4 0 65", "put LOW 0 65", "put HIGH 0 65");
    }

    static void promise08_aMissingTextIsNothing() {
        dueFinding(new RubberSeals(), NOTHING, "put 0 0 65", "put 3 0 65");
    }

    static void promise08_aByteThatThereIsNotIsBeyond() {
        RubberSeals x = new RubberSeals();
        x.text(0, 3);
        dueFinding(x, BEYOND, "put 0 3 65", "put 0 -1 65", "put 0 HIGH 65", "put 0 LOW 65");
    }

    static void promise08_badAheadOfBeyond() {
        dueBad(new RubberSeals(), "put 4 -1 65", "put -1 60 65");
    }

    static void promise08_nothingAheadOfBeyond() {
        dueFinding(new RubberSeals(), NOTHING, "put 0 -1 65", "put 0 60 65");
    }

    // ---- promise 9: fault

    private static void dueFault(String items, int want) {
        RubberSeals x = new RubberSeals();
        write(x, 0, items);
        long digest = x.digest();
        due("fault of '" + items + "'", x.fault(0), want);
        due("digest() behind it", x.digest(), digest);
    }

    private static void dueSound(String... texts) {
        for (String items : texts) dueFault(items, NONE);
    }

    static void promise09_noSuchTextIsBad() {
        dueBad(new RubberSeals(), "fault -1", "fault 4", "fault LOW", "fault HIGH");
    }

    static void promise09_aMissingTextIsNothing() {
        dueFinding(new RubberSeals(), NOTHING, "fault 0", "fault 3");
    }

    static void promise09_theFirstAndTheLastText() {
        RubberSeals x = new RubberSeals();
        write(x, 0, "P1:1");
        write(x, 3, "P1:1x");
        due(x, "fault 0", NONE);
        due(x, "fault 3", 4);
    }

    /** "blanks ahead, between, behind as many as wanted": none. */
    static void promise09_noBlanks() {
        dueSound("P1:1", "T5P1:1P2:2C-3W4G5");
    }

    /** "blanks ahead, between, behind as many as wanted": up to a full TEXT. */
    static void promise09_manyBlanks() {
        dueSound("   P1:1", "P1:1   ", "P1:1     P2:2", " ".repeat(56) + "P1:1", "P1:1" + " ".repeat(56), "P1:1" + " ".repeat(52) + "P2:2");
    }

    static void promise09_noBlanksInsideAnItem() {
        dueFault("P 1:1", 1);
        dueFault("P1 :1", 2);
        dueFault("P1: 1", 3);
        dueFault("P1:1T 5", 5);
        dueFault("P1:1C 5", 5);
        dueFault("P1:1C- 5", 6);
        dueFault("P1:1 2", 5);
    }

    /** "x (1 .. 20)". */
    static void promise09_theLeastAndTheGreatestX() {
        dueSound("P1:5", "P20:5", "P01:5", "P1:5P20:6");
    }

    /** "an x .. that is 0 ..: the place behind that number". */
    static void promise09_anXOf0() {
        dueFault("P0:5", 2);
        dueFault("P00:5", 3);
        dueFault("P1:1 P0:5", 7);
        dueFault("P001:5", 3);
    }

    /** "x above 20 ..: the place behind that number". */
    static void promise09_anXAbove20() {
        dueFault("P21:5", 3);
        dueFault("P99:5", 3);
        dueFault("P1:1 P21:5", 8);
        dueFault("P21", 3);
    }

    /** "x .. not above the one ahead: the place behind that number". */
    static void promise09_anXNotAboveTheOneAhead() {
        dueFault("P5:1P5:2", 6);
        dueFault("P5:1P4:2", 6);
        dueFault("P20:1P20:2", 8);
        dueFault("P9:1 P10:2 P10:3", 14);
        dueSound("P5:1P6:2", "P9:1P10:2");
    }

    /** "y (1 .. 999)". */
    static void promise09_theLeastAndTheGreatestY() {
        dueSound("P5:1", "P5:999", "P5:001", "P5:998P6:999");
    }

    /** "an .. y that is 0: the place behind that number". */
    static void promise09_aYOf0() {
        dueFault("P5:0", 4);
        dueFault("P5:00 ", 5);
        dueFault("P5:000", 6);
        dueFault("P5:0001", 6);
        dueFault("P5:1 P6:0 ", 9);
    }

    /** "y not above the one ahead: the place behind that number". */
    static void promise09_aYNotAboveTheOneAhead() {
        dueFault("P5:9P6:9", 8);
        dueFault("P5:9P6:8 ", 8);
        dueFault("P5:999P6:999", 12);
        dueFault("P5:99P6:100P7:100", 17);
        dueSound("P5:9P6:10", "P5:99P6:100");
    }

    /** "1 to 4 such": four, and no more. "a fifth P: its place". */
    static void promise09_aFifthP() {
        dueSound("P1:1P2:2P3:3P4:4", "P1:1P2:2P3:3P4:4 T5");
        dueFault("P1:1P2:2P3:3P4:4P5:5", 16);
        dueFault("P1:1P2:2P3:3P4:4P", 16);
        dueFault("P1:1P2:2P3:3P4:4 T5 P0:0", 20);
    }

    /** "Numbers are of one or two figures". */
    static void promise09_oneOrTwoFigures() {
        dueSound("T0P1:1", "T99P1:1", "W00P1:1", "G09P1:1", "C99P1:1", "C-99P1:1");
        dueFault("T100P1:1", 3);
        dueFault("W100P1:1", 3);
        dueFault("G000P1:1", 3);
        dueFault("C100P1:1", 3);
        dueFault("C-100P1:1", 4);
        dueFault("P012:1", 3);
    }

    /** "(y: one to three)". */
    static void promise09_oneToThreeFiguresOfY() {
        dueSound("P1:1", "P1:10", "P1:100");
        dueFault("P1:1000", 6);
        dueFault("P1:0010", 6);
    }

    static void promise09_aNumberWithoutFigures() {
        dueFault("Tx", 1);
        dueFault("WP1:1", 1);
        dueFault("G-1", 1);
        dueFault("P:1", 1);
        dueFault("P1:x", 3);
        dueFault("Cx", 1);
        dueFault("C-x", 2);
    }

    /** "C (67), an optional - (45), n": one at most, and of C alone. */
    static void promise09_anOptionalMinus() {
        dueSound("C5P1:1", "C-5P1:1", "C-0P1:1", "C-05P1:1");
        dueFault("C--5P1:1", 2);
        dueFault("C+5P1:1", 1);
        dueFault("T-5P1:1", 1);
        dueFault("P-1:1", 1);
        dueFault("P1:-1", 3);
    }

    static void promise09_signsThatBeginNoItem() {
        String[] signs = {"x", "p", "t", "5", ":", "-", ",", "\t", "\0", "O", "Q", "S", "U", "D", "F", "H", "V", "X", "!"};
        for (String sign : signs) {
            dueFault(sign, 0);
            dueFault("P1:1 " + sign, 5);
        }
    }

    static void promise09_bytesBelow0() {
        RubberSeals x = new RubberSeals();
        write(x, 0, "P1:1 ");
        x.put(0, 4, 160);
        due(x, "fault 0", 4);
        x.put(0, 4, -1);
        due(x, "fault 0", 4);
        x.put(0, 4, 128 + 'T');
        due(x, "fault 0", 4);
    }

    /** "the TEXT's size, if its end comes too early". */
    static void promise09_anEndThatComesTooEarly() {
        String[] ends = {"P", "P5", "P05", "P5:", "T", "W", "G", "C", "C-", "P1:1P", "P1:1P2", "P1:1P2:", "P1:1T", "P1:1C-"};
        for (String items : ends) dueFault(items, items.length());
        dueFault("P1:1" + " ".repeat(55) + "T", 60);
    }

    /** "the TEXT's size, if .. no P was told". */
    static void promise09_noPWasTold() {
        String[] texts = {"", " ", "T5", "T5 W6 G7 C-8", "   C5 ", " ".repeat(60)};
        for (String items : texts) dueFault(items, items.length());
    }

    /** "the first place": of several faults the first one counts. */
    static void promise09_theFirstOfSeveral() {
        dueFault("P0:0", 2);
        dueFault("P5:0 x", 4);
        dueFault("x P0:0", 0);
        dueFault("T5 x", 3);
        dueFault("P5:9P4:0P", 6);
    }

    // ---- promise 10: stuff

    /** "how many (x, y)": one to four. */
    static void promise10_oneToFour() {
        String[] texts = {"P1:1", "P1:1P2:2", "P1:1P2:2P3:3", "P1:1P2:2P3:3P4:4"};
        for (int n = 1; n <= 4; n++) {
            RubberSeals x = new RubberSeals();
            write(x, 0, texts[n - 1]);
            due(x, "stuff 0 0", n);
            dueAsked(x, "about 0 0", 1, n);
        }
    }

    /** "STUFFS 0 .. 5", "TEXTS 0 .. 3": the first and the last. */
    static void promise10_theFirstAndTheLast() {
        RubberSeals x = new RubberSeals();
        write(x, 0, "P1:10");
        write(x, 3, "P1:20");
        due(x, "stuff 0 3", 1);
        due(x, "stuff 5 0", 1);
        due(x, "count 3", 2);
        dueFraction(x, "push 0 1", 1, 20, 1);
        dueFraction(x, "push 5 1", 1, 10, 1);
    }

    static void promise10_noSuchStuffOrTextIsBad() {
        RubberSeals x = new RubberSeals();
        write(x, 0, "P1:10");
        dueBad(x, "stuff -1 0", "stuff 6 0", "stuff 0 -1", "stuff 0 4", "stuff LOW 0", "stuff 0 HIGH");
    }

    static void promise10_badAheadOfNothingAndState() {
        RubberSeals x = new RubberSeals();
        write(x, 0, "x");
        dueBad(x, "stuff 6 0", "stuff 6 1");
    }

    static void promise10_aMissingTextIsNothing() {
        RubberSeals x = with("P1:10");
        dueFinding(x, NOTHING, "stuff 0 0", "stuff 5 2");
        due(x, "count 3", 1);
    }

    /** "STATE: a FAULT. (STATE behind NOTHING.)" */
    static void promise10_aFaultIsState() {
        RubberSeals x = new RubberSeals();
        String[] faulty = {"", "   ", "T5", "P1:1x", "P0:1", "P1:1P2:2P3:3P4:4P5:5"};
        for (String items : faulty) {
            write(x, 0, items);
            dueState(x, "stuff 0 0");
        }
        due(x, "count 3", 0);
    }

    static void promise10_refusedLeavesTheOldOne() {
        RubberSeals x = with("P1:10P3:50T5W6G7C8");
        write(x, 0, "P1:99T55W66G77C88 x");
        dueState(x, "stuff 0 0");
        int[] want = {2, 5, 8, 6, 7};
        for (int what = 0; what <= 4; what++) dueAsked(x, "about 0 " + what, 1, want[what]);
        dueFraction(x, "push 0 2", 1, 30, 1);
    }

    /** "anew": what the new TEXT does not tell is as at first. */
    static void promise10_anewNothingIsLeftOfTheOld() {
        RubberSeals x = with("P1:10P3:50P4:60P5:70T5W6G7C8");
        write(x, 0, "P2:10");
        due(x, "stuff 0 0", 1);
        due("digest()", x.digest(), digestOf("P2:10", x));
        int[] want = {1, 0, -99, 0, 0};
        for (int what = 0; what <= 4; what++) dueAsked(x, "about 0 " + what, 1, want[what]);
        dueFraction(x, "push 0 20", 1, 100, 1);
    }

    /** The digest of an object that never had another STUFF 0, and the same TEXTS. */
    private static long digestOf(String items, RubberSeals like) {
        RubberSeals x = new RubberSeals();
        write(x, 0, items);
        x.stuff(0, 0);
        write(x, 3, "P1:10P3:50P4:60P5:70T5W6G7C8");
        due("TEXTS of both", x.count(5), like.count(5));
        return x.digest();
    }

    /** "SEALS of it are of the new one". */
    static void promise10_sealsAreOfTheNewOne() {
        RubberSeals x = with("P1:10");
        calls(x, "seal 0 1 0 100 1", "let 0 50");
        dueFraction(x, "rest", 0, 95, 1);
        write(x, 0, "P1:25");
        due(x, "stuff 0 0", 1);
        dueFraction(x, "rest", 0, 98, 1);
        due(x, "mark 0 1", 0);
    }

    static void promise10_aTextChangedLaterChangesNoStuff() {
        RubberSeals x = with("P1:10");
        calls(x, "put 3 1 53", "text 3 0");
        dueFraction(x, "push 0 1", 1, 10, 1);
    }

    // ---- promise 11: about

    static void promise11_noSuchStuffIsBad() {
        dueBad(with("P1:1"), "about -1 0", "about 6 0", "about LOW 0", "about HIGH 0");
    }

    static void promise11_noSuchWhatIsBad() {
        dueBad(with("P1:1"), "about 0 -1", "about 0 5", "about 0 LOW", "about 0 HIGH");
    }

    static void promise11_aMissingStuffIsNothing() {
        dueFinding(with("P1:1"), NOTHING, "about 1 0", "about 5 4");
    }

    static void promise11_badAheadOfNothing() {
        dueBad(with("P1:1"), "about 1 5", "about 1 -1", "about 6 5");
    }

    /** "(0 at first)", "(-99 at first)": what no item told. */
    static void promise11_whatWasNotTold() {
        RubberSeals x = with("P1:1");
        int[] want = {1, 0, -99, 0, 0};
        for (int what = 0; what <= 4; what++) dueAsked(x, "about 0 " + what, 1, want[what]);
    }

    static void promise11_theGreatestOfEach() {
        RubberSeals x = with("P1:1P2:2P3:3P4:4T99C99W99G99");
        int[] want = {4, 99, 99, 99, 99};
        for (int what = 0; what <= 4; what++) dueAsked(x, "about 0 " + what, 1, want[what]);
    }

    static void promise11_theLeastOfEach() {
        RubberSeals x = with("P1:1T0C-99W00G0");
        int[] want = {1, 0, -99, 0, 0};
        for (int what = 0; what <= 4; what++) dueAsked(x, "about 0 " + what, 1, want[what]);
    }

    static void promise11_aColdOf0() {
        RubberSeals x = with("C-0P1:1", "C0P1:1");
        dueAsked(x, "about 0 2", 1, 0);
        dueAsked(x, "about 1 2", 1, 0);
    }

    /** "Of alike items T, W, G, C the last counts." */
    static void promise11_theLastOfAlikeItems() {
        RubberSeals x = with("T9C-8W7G6 P1:1 T1C2W3G4", "C5C-6P1:1T9T0");
        int[] want = {1, 1, 2, 3, 4};
        for (int what = 0; what <= 4; what++) dueAsked(x, "about 0 " + what, 1, want[what]);
        dueAsked(x, "about 1 2", 1, -6);
        dueAsked(x, "about 1 1", 1, 0);
    }

    // ---- promise 12: push

    static void promise12_noSuchStuffIsBad() {
        dueBad(with("P1:1"), "push -1 0", "push 6 0", "push LOW 0", "push HIGH 0");
    }

    /** "squeezed by u (0 .. 99)". */
    static void promise12_uBelow0OrAbove99IsBad() {
        dueBad(with("P1:1"), "push 0 -1", "push 0 100", "push 0 LOW", "push 0 HIGH");
    }

    static void promise12_aMissingStuffIsNothing() {
        dueFinding(with("P1:1"), NOTHING, "push 1 0", "push 5 99");
    }

    static void promise12_badAheadOfNothing() {
        dueBad(with("P1:1"), "push 1 100", "push 1 -1");
    }

    /** "from (0, 0)"; "(0 by 1)". */
    static void promise12_squeezedBy0() {
        RubberSeals x = with("P7:3P8:999");
        x.push(0, 99);
        dueFraction(x, "push 0 0", 1, 0, 1);
    }

    static void promise12_aheadOfTheFirst() {
        RubberSeals x = with("P7:3P8:999");
        dueFraction(x, "push 0 1", 1, 3, 7);
        dueFraction(x, "push 0 6", 1, 18, 7);
    }

    static void promise12_atEachOfFour() {
        RubberSeals x = with("P2:3P5:10P6:11P20:999");
        dueFraction(x, "push 0 2", 1, 3, 1);
        dueFraction(x, "push 0 5", 1, 10, 1);
        dueFraction(x, "push 0 6", 1, 11, 1);
        dueFraction(x, "push 0 20", 1, 999, 1);
    }

    static void promise12_betweenTwo() {
        RubberSeals x = with("P2:3P5:10P6:11P20:999");
        dueFraction(x, "push 0 1", 1, 3, 2);
        dueFraction(x, "push 0 3", 1, 16, 3);
        dueFraction(x, "push 0 4", 1, 23, 3);
        dueFraction(x, "push 0 7", 1, 571, 7);
    }

    /** "beyond the last one as the line ahead of it goes on". */
    static void promise12_beyondTheLast() {
        RubberSeals x = with("P2:100P5:101", "P1:1P2:999");
        dueFraction(x, "push 0 6", 1, 304, 3);
        dueFraction(x, "push 0 99", 1, 397, 3);
        dueFraction(x, "push 1 3", 1, 1997, 1);
        dueFraction(x, "push 1 99", 1, 97805, 1);
    }

    static void promise12_beyondTheOnlyOne() {
        RubberSeals x = with("P20:1", "P1:999");
        dueFraction(x, "push 0 1", 1, 1, 20);
        dueFraction(x, "push 0 99", 1, 99, 20);
        dueFraction(x, "push 1 99", 1, 98901, 1);
    }

    /** "in lowest terms". */
    static void promise12_lowestTerms() {
        RubberSeals x = with("P12:8", "P20:10");
        dueFraction(x, "push 0 1", 1, 2, 3);
        dueFraction(x, "push 0 9", 1, 6, 1);
        dueFraction(x, "push 1 19", 1, 19, 2);
    }
}
