/** For each promise of the document: ordinary inputs, the edges it names, and wrong inputs. */
public final class RubberSealsPromises extends Bench {

    public static void main(String[] args) {
        newObject();
        row();
        lay();
        tear();
        copy();
        mean();
        text();
        put();
        fault();
        stuff();
        about();
        push();
        seal();
        take();
        depth();
        stretch();
        told();
        mark();
        let();
        rest();
        restOfSeveral();
        press();
        opens();
        weakest();
        leak();
        through();
        age();
        swell();
        renew();
        blown();
        ends();
        sure();
        follows();
        strip();
        parting();
        batch();
        led();
        ledByOneAlone();
        choose();
        chooseRefused();
        sniff();
        asked();
        fractions();
        count();
        findings();
        digest();
        refusedChangesNothing();
        end();
    }

    private static void due(int promise, String what, long got, long want) {
        begin("promise " + promise);
        due(what, got, want);
    }

    /** Due is a refusal with this finding. */
    private static void dueFinding(int promise, String what, RubberSeals x, int got, int finding) {
        due(promise, what, got, FINDING);
        due(promise, what + ", finding()", x.finding(), finding);
    }

    /** Due is an answer, and by asked() another. */
    private static void dueAsked(int promise, String what, RubberSeals x, int got, int want, int wantAsked) {
        due(promise, what, got, want);
        due(promise, what + ", asked()", x.asked(), wantAsked);
    }

    private static void dueFraction(int promise, String what, RubberSeals x, int got, int want, long up, long down) {
        due(promise, what, got, want);
        due(promise, what + ", upper()", x.upper(), up);
        due(promise, what + ", lower()", x.lower(), down);
    }

    private static void newObject() {
        RubberSeals x = new RubberSeals();
        for (int what = 0; what <= 5; what++) due(1, "count(" + what + ")", x.count(what), 0);
        for (int f = 1; f <= 5; f++) due(1, "findings(" + f + ")", x.findings(f), 0);
        due(1, "asked()", x.asked(), 0);
        due(1, "upper()", x.upper(), 0);
        due(1, "lower()", x.lower(), 1);
        due(1, "finding()", x.finding(), 0);
        due(1, "rest()", x.rest(), STATE);
        due(1, "opens()", x.opens(), 0);
        due(1, "weakest()", x.weakest(), NONE);
        due(1, "let(0, 5)", x.let(0, 5), 0);
        due(1, "let(1, 5)", x.let(1, 5), 20);
        due(1, "let(2, 5)", x.let(2, 5), 0);
        due(1, "let(3, 5)", x.let(3, 5), 0);
        for (int p = 0; p < 4; p++) due(1, "depth(p, 1)", x.depth(p, 1), 0);
        for (int r = 0; r < 6; r++) dueFinding(1, "tear(r)", x, x.tear(r), 1);
        for (int t = 0; t < 4; t++) dueFinding(1, "fault(t)", x, x.fault(t), 1);
        for (int s = 0; s < 6; s++) dueFinding(1, "about(s, 0)", x, x.about(s, 0), 1);
        for (int p = 0; p < 4; p++) dueFinding(1, "take(p)", x, x.take(p), 1);
    }

    private static void row() {
        RubberSeals x = new RubberSeals();
        due(2, "row(0, 0)", x.row(0, 0), 0);
        due(2, "row(5, 40)", x.row(5, 40), 40);
        due(2, "count(4)", x.count(4), 2);
        x.lay(5, 39, 7);
        due(2, "row(5, 41)", x.row(5, 41), BAD);
        due(2, "row(5, HIGH)", x.row(5, HIGH), BAD);
        due(2, "row(6, 1)", x.row(6, 1), BAD);
        due(2, "row(-1, 1)", x.row(-1, 1), BAD);
        due(2, "row(6, -1)", x.row(6, -1), BAD);
        due(2, "finding() behind BAD", x.finding(), 0);
        dueFinding(2, "row(5, -1)", x, x.row(5, -1), 5);
        dueFinding(2, "row(5, LOW)", x, x.row(5, LOW), 5);
        dueAsked(2, "refused rows stay", x, x.lay(5, 39, 8), 1, 7);
        x.row(5, 40);
        dueAsked(2, "a row anew is all 0", x, x.lay(5, 39, 1), 1, 0);
        x.row(5, 2);
        dueFinding(2, "a shorter row", x, x.lay(5, 2, 1), 2);
    }

    private static void lay() {
        RubberSeals x = new RubberSeals();
        x.row(1, 2);
        dueAsked(3, "lay(1, 0, LOW)", x, x.lay(1, 0, LOW), 1, 0);
        dueAsked(3, "lay(1, 0, 3)", x, x.lay(1, 0, 3), 1, LOW);
        dueAsked(3, "lay(1, 1, 3)", x, x.lay(1, 1, 3), 1, 0);
        due(3, "lay(6, 0, 0)", x.lay(6, 0, 0), BAD);
        due(3, "lay(-1, 0, 0)", x.lay(-1, 0, 0), BAD);
        dueFinding(3, "lay(1, 2, 0)", x, x.lay(1, 2, 0), 2);
        dueFinding(3, "lay(0, 2, 0)", x, x.lay(0, 2, 0), 1);
        dueFinding(3, "lay(1, -1, 0)", x, x.lay(1, -1, 0), 2);
        dueFinding(3, "lay(1, HIGH, 0)", x, x.lay(1, HIGH, 0), 2);
    }

    private static void tear() {
        RubberSeals x = new RubberSeals();
        x.row(2, 3);
        x.lay(2, 1, 9);
        due(4, "tear(2)", x.tear(2), 1);
        due(4, "count(4)", x.count(4), 0);
        dueFinding(4, "tear(2) again", x, x.tear(2), 1);
        due(4, "tear(6)", x.tear(6), BAD);
        due(4, "tear(-1)", x.tear(-1), BAD);
        x.row(2, 3);
        due(4, "made again", layOld(x, 2, 1), 0);
    }

    private static void copy() {
        RubberSeals x = new RubberSeals();
        layAll(x, 0, 1, 2, 3, 4, 5);
        layAll(x, 1, 10, 20, 30);
        due(5, "copy(0, 3, 1, 0, 2)", x.copy(0, 3, 1, 0, 2), 1);
        due(5, "place 0", layOld(x, 1, 0), 4);
        due(5, "place 1", layOld(x, 1, 1), 5);
        due(5, "place 2", layOld(x, 1, 2), 30);
        due(5, "copy(0, 0, 0, 1, 4)", x.copy(0, 0, 0, 1, 4), 1);
        int[] ahead = {1, 1, 2, 3, 4};
        for (int i = 0; i < 5; i++) due(5, "as if taken ahead " + i, layOld(x, 0, i), ahead[i]);
        layAll(x, 0, 1, 2, 3, 4, 5);
        due(5, "copy(0, 1, 0, 0, 4)", x.copy(0, 1, 0, 0, 4), 1);
        int[] back = {2, 3, 4, 5, 5};
        for (int i = 0; i < 5; i++) due(5, "taken back " + i, layOld(x, 0, i), back[i]);
        due(5, "copy(0, 5, 1, 3, 0)", x.copy(0, 5, 1, 3, 0), 1);
        due(5, "copy(6, 0, 1, 0, 1)", x.copy(6, 0, 1, 0, 1), BAD);
        due(5, "copy(0, 0, -1, 0, 1)", x.copy(0, 0, -1, 0, 1), BAD);
        due(5, "copy(0, 0, 6, 0, -1)", x.copy(0, 0, 6, 0, -1), BAD);
        dueFinding(5, "copy(0, 0, 1, 0, -1)", x, x.copy(0, 0, 1, 0, -1), 5);
        dueFinding(5, "copy(2, 0, 1, 0, 1)", x, x.copy(2, 0, 1, 0, 1), 1);
        dueFinding(5, "copy(2, 0, 1, 0, -1)", x, x.copy(2, 0, 1, 0, -1), 5);
        dueFinding(5, "copy(0, 0, 2, 9, 1)", x, x.copy(0, 0, 2, 9, 1), 1);
        dueFinding(5, "copy(0, 0, 1, 0, 4)", x, x.copy(0, 0, 1, 0, 4), 2);
        dueFinding(5, "copy(1, 0, 0, 0, 4)", x, x.copy(1, 0, 0, 0, 4), 2);
        dueFinding(5, "copy(0, -1, 1, 0, 1)", x, x.copy(0, -1, 1, 0, 1), 2);
        dueFinding(5, "copy(0, 0, 1, -1, 1)", x, x.copy(0, 0, 1, -1, 1), 2);
        dueFinding(5, "copy(0, 6, 1, 0, 0)", x, x.copy(0, 6, 1, 0, 0), 2);
        dueFinding(5, "copy(0, HIGH, 1, 0, HIGH)", x, x.copy(0, HIGH, 1, 0, HIGH), 2);
        dueFinding(5, "copy(0, 0, 1, HIGH, 1)", x, x.copy(0, 0, 1, HIGH, 1), 2);
    }

    private static void mean() {
        RubberSeals x = new RubberSeals();
        layAll(x, 0, 1, 2, 4);
        dueAsked(6, "mean of 1 2 4", x, x.mean(0), 1, 2);
        layAll(x, 0, -1, -2, -4);
        dueAsked(6, "mean of -1 -2 -4", x, x.mean(0), 1, -2);
        layAll(x, 0, HIGH, HIGH, HIGH);
        dueAsked(6, "mean of the highest", x, x.mean(0), 1, HIGH);
        layAll(x, 0, LOW, LOW);
        dueAsked(6, "mean of the lowest", x, x.mean(0), 1, LOW);
        x.row(0, 0);
        dueFinding(6, "mean of none", x, x.mean(0), 4);
        dueFinding(6, "mean(1)", x, x.mean(1), 1);
        due(6, "mean(6)", x.mean(6), BAD);
        due(6, "mean(-1)", x.mean(-1), BAD);
    }

    private static void text() {
        RubberSeals x = new RubberSeals();
        due(7, "text(0, 0)", x.text(0, 0), 0);
        due(7, "text(3, 60)", x.text(3, 60), 60);
        due(7, "count(5)", x.count(5), 2);
        due(7, "a blank", x.put(3, 59, 65), 1032);
        due(7, "text(3, 61)", x.text(3, 61), BAD);
        due(7, "text(4, 1)", x.text(4, 1), BAD);
        due(7, "text(-1, 1)", x.text(-1, 1), BAD);
        due(7, "text(4, -1)", x.text(4, -1), BAD);
        dueFinding(7, "text(3, -1)", x, x.text(3, -1), 5);
        due(7, "refused texts stay", x.put(3, 59, 66), 1065);
        x.text(3, 60);
        due(7, "a text anew is all blanks", x.put(3, 59, 65), 1032);
    }

    private static void put() {
        RubberSeals x = new RubberSeals();
        x.text(2, 2);
        due(8, "put(2, 1, 127)", x.put(2, 1, 127), 1032);
        due(8, "put(2, 1, 128)", x.put(2, 1, 128), 1127);
        due(8, "put(2, 1, 255)", x.put(2, 1, 255), 872);
        due(8, "put(2, 1, 256)", x.put(2, 1, 256), 999);
        due(8, "put(2, 1, -1)", x.put(2, 1, -1), 1000);
        due(8, "put(2, 1, HIGH)", x.put(2, 1, HIGH), 999);
        due(8, "put(2, 1, 300)", x.put(2, 1, 300), 999);
        due(8, "put(2, 1, 1)", x.put(2, 1, 1), 1044);
        due(8, "put(4, 0, 1)", x.put(4, 0, 1), BAD);
        due(8, "put(-1, 0, 1)", x.put(-1, 0, 1), BAD);
        dueFinding(8, "put(2, 2, 1)", x, x.put(2, 2, 1), 2);
        dueFinding(8, "put(0, 2, 1)", x, x.put(0, 2, 1), 1);
        dueFinding(8, "put(2, -1, 1)", x, x.put(2, -1, 1), 2);
    }

    private static void dueFault(String items, int want) {
        RubberSeals x = new RubberSeals();
        write(x, 0, items);
        due(9, "fault of '" + items + "'", x.fault(0), want);
    }

    private static void fault() {
        String[] sound = {
            "P1:1", "  P20:999  ", "P1:1P2:2P3:3P4:4", "P01:001", "T9W9G9C9P5:5", "P5:5C-9", "P5:5C-0", "P5:5 T00",
            "P1:1   P2:2", "P5:5T1T2T3", "P19:9P20:10",
        };
        for (String items : sound) dueFault(items, NONE);
        dueFault("", 0);
        dueFault("   ", 3);
        dueFault("T5 W6", 5);
        dueFault("P", 1);
        dueFault("P5", 2);
        dueFault("P5:", 3);
        dueFault("P5:1C", 5);
        dueFault("P5:1C-", 6);
        dueFault("P5:1T", 5);
        dueFault("P0:5", 2);
        dueFault("P00:5", 3);
        dueFault("P21:5", 3);
        dueFault("P99:5", 3);
        dueFault("P5:0", 4);
        dueFault("P5:000 ", 6);
        dueFault("P5:9P5:10", 6);
        dueFault("P5:9P4:10", 6);
        dueFault("P5:9P6:9", 8);
        dueFault("P5:9P6:8 ", 8);
        dueFault("P1:1P2:2P3:3P4:4P5:5", 16);
        dueFault("P1:1P2:2P3:3P4:4  P", 18);
        dueFault("P 1:1", 1);
        dueFault("P1 :1", 2);
        dueFault("P1: 1", 3);
        dueFault("P1:1 T 5", 6);
        dueFault("P1:1C 5", 5);
        dueFault("P1:1C- 5", 6);
        dueFault("C--5P1:1", 2);
        dueFault("P1:1T-5", 5);
        dueFault("P001:1", 3);
        dueFault("P1:1000", 6);
        dueFault("T100P1:1", 3);
        dueFault("C-100P1:1", 4);
        dueFault("x", 0);
        dueFault("P1:1p2:2", 4);
        dueFault("P1:1,", 4);
        dueFault("P-1:1", 1);
        dueFault("P1:-1", 3);
        RubberSeals x = new RubberSeals();
        write(x, 1, "P1:1 ");
        x.put(1, 4, 160);
        due(9, "a byte that is no blank", x.fault(1), 4);
        dueFinding(9, "fault(0)", x, x.fault(0), 1);
        due(9, "fault(4)", x.fault(4), BAD);
        due(9, "fault(-1)", x.fault(-1), BAD);
    }

    private static void stuff() {
        RubberSeals x = new RubberSeals();
        write(x, 0, "P1:10P3:20T5C7");
        due(10, "stuff(5, 0)", x.stuff(5, 0), 2);
        due(10, "count(3)", x.count(3), 1);
        x.seal(0, 1, 5, 100, 1);
        x.let(0, 10);
        dueFraction(10, "press(0)", x, x.press(0), 0, 10, 1);
        write(x, 0, "P2:10");
        due(10, "stuff(5, 0) anew", x.stuff(5, 0), 1);
        dueFraction(10, "the seal is of the new one", x, x.rest(), 0, 98, 1);
        dueAsked(10, "its SET", x, x.about(5, 1), 1, 0);
        dueAsked(10, "its COLD", x, x.about(5, 2), 1, -99);
        due(10, "stuff(6, 0)", x.stuff(6, 0), BAD);
        due(10, "stuff(-1, 0)", x.stuff(-1, 0), BAD);
        due(10, "stuff(0, 4)", x.stuff(0, 4), BAD);
        due(10, "stuff(0, -1)", x.stuff(0, -1), BAD);
        dueFinding(10, "stuff(0, 1)", x, x.stuff(0, 1), 1);
        write(x, 0, "P2:10P1:20");
        due(10, "stuff of a FAULT", x.stuff(5, 0), STATE);
        due(10, "STATE is no FINDING", x.findings(1), 1);
        dueFraction(10, "the old one stays", x, x.push(5, 3), 1, 15, 1);
        write(x, 0, "T5");
        due(10, "no P", x.stuff(0, 0), STATE);
    }

    private static void about() {
        RubberSeals x = with("P1:1P2:2P3:4T11W22G33C-44", "P9:9", "T1T2C5C-6P1:1W3G4W5G6");
        int[][] want = {{3, 11, -44, 22, 33}, {1, 0, -99, 0, 0}, {1, 2, -6, 5, 6}};
        for (int s = 0; s < 3; s++) {
            for (int what = 0; what <= 4; what++) {
                dueAsked(11, "about(" + s + ", " + what + ")", x, x.about(s, what), 1, want[s][what]);
            }
        }
        due(11, "about(0, 5)", x.about(0, 5), BAD);
        due(11, "about(0, -1)", x.about(0, -1), BAD);
        due(11, "about(6, 0)", x.about(6, 0), BAD);
        due(11, "about(-1, 0)", x.about(-1, 0), BAD);
        due(11, "about(3, 5)", x.about(3, 5), BAD);
        dueFinding(11, "about(3, 0)", x, x.about(3, 0), 1);
    }

    private static void push() {
        RubberSeals x = with("P2:10P6:50", "P3:1P10:2P20:500", "P7:3");
        int[][] first = {{0, 0}, {1, 5}, {2, 10}, {3, 20}, {6, 50}, {7, 60}, {99, 980}};
        for (int[] pair : first) dueFraction(12, "push(0, " + pair[0] + ")", x, x.push(0, pair[0]), 1, pair[1], 1);
        dueFraction(12, "push(1, 2)", x, x.push(1, 2), 1, 2, 3);
        dueFraction(12, "push(1, 4)", x, x.push(1, 4), 1, 8, 7);
        dueFraction(12, "push(1, 11)", x, x.push(1, 11), 1, 259, 5);
        dueFraction(12, "push(1, 25)", x, x.push(1, 25), 1, 749, 1);
        dueFraction(12, "push(2, 99)", x, x.push(2, 99), 1, 297, 7);
        dueFraction(12, "push(2, 14)", x, x.push(2, 14), 1, 6, 1);
        dueFraction(12, "push(2, 0)", x, x.push(2, 0), 1, 0, 1);
        due(12, "push(0, 100)", x.push(0, 100), BAD);
        due(12, "push(0, -1)", x.push(0, -1), BAD);
        due(12, "push(6, 0)", x.push(6, 0), BAD);
        due(12, "push(-1, 0)", x.push(-1, 0), BAD);
        dueFinding(12, "push(3, 0)", x, x.push(3, 0), 1);
    }

    private static void seal() {
        RubberSeals x = with("P1:10");
        due(13, "seal(0, 1, 0, 50, 1)", x.seal(0, 1, 0, 50, 1), 1);
        due(13, "seal(3, 4, 0, 400, 9)", x.seal(3, 4, 0, 400, 9), 1);
        due(13, "a PART's STUFF is not looked at", x.seal(1, 0, 77, 60, 2), 1);
        due(13, "a PART of a missing STUFF", x.seal(1, 0, 5, 60, 2), 1);
        int[] want = {4, 400, 400, 9, 0};
        for (int what = 0; what <= 4; what++) due(13, "told " + what, toldAt(x, 3, what), want[what]);
        x.stretch(3, 20);
        x.blown(3);
        x.seal(3, 4, 0, 300, 2);
        due(13, "anew: FREE HEIGHT", toldAt(x, 3, 1), 300);
        due(13, "anew: not STRETCHED", x.mark(3, 2), 0);
        due(13, "anew: never asked", x.mark(3, 4), 0);
        int[][] bad = {
            {4, 1, 0, 100, 1}, {-1, 1, 0, 100, 1}, {0, 5, 0, 100, 1}, {0, -1, 0, 100, 1}, {0, 1, 6, 100, 1}, {0, 1, -1, 100, 1},
            {0, 1, 0, 49, 1}, {0, 1, 0, 401, 1}, {0, 1, 0, 100, 0}, {0, 1, 0, 100, 10}, {0, 0, 0, 49, 1}, {0, 0, 0, 100, 10},
            {0, 1, 1, 100, 10},
        };
        for (int[] b : bad) due(13, "a bad seal", x.seal(b[0], b[1], b[2], b[3], b[4]), BAD);
        dueFinding(13, "seal(0, 1, 1, 100, 1)", x, x.seal(0, 1, 1, 100, 1), 1);
        due(13, "the old one stays", toldAt(x, 0, 1), 50);
    }

    private static void take() {
        RubberSeals x = with("P1:10");
        x.seal(2, 1, 0, 50, 1);
        x.depth(2, 7);
        due(14, "take(2)", x.take(2), 1);
        due(14, "count(0)", x.count(0), 0);
        dueFinding(14, "take(2) again", x, x.take(2), 1);
        due(14, "the DEPTH stays", x.depth(2, 7), 7);
        due(14, "take(4)", x.take(4), BAD);
        due(14, "take(-1)", x.take(-1), BAD);
    }

    private static void depth() {
        RubberSeals x = with("P1:10");
        due(15, "depth(3, 200)", x.depth(3, 200), 0);
        due(15, "depth(3, 0)", x.depth(3, 0), 200);
        due(15, "depth(3, 201)", x.depth(3, 201), BAD);
        due(15, "depth(3, -1)", x.depth(3, -1), BAD);
        due(15, "depth(4, 0)", x.depth(4, 0), BAD);
        due(15, "depth(-1, 0)", x.depth(-1, 0), BAD);
        x.depth(0, 30);
        x.seal(0, 1, 0, 100, 1);
        dueFraction(15, "the seal is lower", x, x.rest(), 0, 70, 1);
    }

    private static void stretch() {
        RubberSeals x = with("P1:10T99");
        x.seal(0, 2, 0, 121, 1);
        x.seal(1, 3, 0, 101, 1);
        x.seal(2, 4, 0, 50, 1);
        due(16, "stretch(0, 10)", x.stretch(0, 10), 114);
        due(16, "stretch(1, 1)", x.stretch(1, 1), 100);
        due(16, "stretch(2, 40)", x.stretch(2, 40), 40);
        due(16, "it is of the HEIGHT", x.stretch(2, 20), 45);
        due(16, "stretch(2, 0)", x.stretch(2, 0), 50);
        due(16, "HEIGHT stays", toldAt(x, 0, 2), 121);
        x.let(0, 99999);
        x.age(1);
        due(16, "the set is forgotten", x.stretch(0, 10), 114);
        due(16, "stretch(0, 41)", x.stretch(0, 41), BAD);
        due(16, "stretch(0, -1)", x.stretch(0, -1), BAD);
        due(16, "stretch(4, 0)", x.stretch(4, 0), BAD);
        due(16, "stretch(-1, 0)", x.stretch(-1, 0), BAD);
        due(16, "BAD ahead of NOTHING", x.stretch(3, 41), BAD);
        dueFinding(16, "no SEAL", x, x.stretch(3, 1), 1);
        x.seal(3, 1, 0, 50, 1);
        dueFinding(16, "a PIECE", x, x.stretch(3, 1), 3);
        x.seal(3, 0, 0, 50, 1);
        dueFinding(16, "a PART", x, x.stretch(3, 1), 3);
    }

    private static void told() {
        RubberSeals x = with("P1:10");
        x.seal(1, 2, 0, 200, 7);
        x.depth(1, 9);
        x.stretch(1, 40);
        int[] want = {2, 160, 200, 7, 9};
        for (int what = 0; what <= 4; what++) dueAsked(17, "told(1, " + what + ")", x, x.told(1, what), 1, want[what]);
        due(17, "told(1, 5)", x.told(1, 5), BAD);
        due(17, "told(1, -1)", x.told(1, -1), BAD);
        due(17, "told(4, 0)", x.told(4, 0), BAD);
        due(17, "told(-1, 0)", x.told(-1, 0), BAD);
        dueFinding(17, "told(0, 4)", x, x.told(0, 4), 1);
    }

    private static void mark() {
        RubberSeals x = with("P1:10", "P1:20", "P1:30", "P1:40");
        x.seal(0, 1, 3, 100, 1);
        x.seal(1, 2, 2, 100, 1);
        x.seal(2, 3, 1, 100, 1);
        x.seal(3, 4, 3, 100, 1);
        x.stretch(1, 5);
        x.stretch(2, 6);
        x.stretch(3, 7);
        for (int i = 0; i < 3; i++) x.follows(2, 1, 1);
        for (int p = 0; p < 4; p++) x.blown(p);
        x.blown(3);
        int[][] want = {{3, -3, -3, -3}, {2, 5, -3, -3}, {1, 6, 3, -3}, {3, 7, -3, 2}};
        for (int p = 0; p < 4; p++) {
            for (int kind = 1; kind <= 4; kind++) due(18, "mark(" + p + ", " + kind + ")", x.mark(p, kind), want[p][kind - 1]);
        }
        due(18, "UNLIKE each time", x.findings(3), 7);
        due(18, "a refused one is not counted", x.follows(2, 0, 1), BAD);
        due(18, "mark(2, 3)", x.mark(2, 3), 3);
        due(18, "mark(0, 0)", x.mark(0, 0), BAD);
        due(18, "mark(0, 5)", x.mark(0, 5), BAD);
        due(18, "mark(4, 1)", x.mark(4, 1), BAD);
        due(18, "mark(-1, 1)", x.mark(-1, 1), BAD);
        x.seal(0, 0, 0, 100, 1);
        dueFinding(18, "a PART", x, x.mark(0, 1), 3);
        x.take(0);
        dueFinding(18, "no SEAL", x, x.mark(0, 1), 1);
        x.renew(2);
        due(18, "asked still as often when renewed", x.mark(2, 3), 3);
    }

    private static void let() {
        RubberSeals x = new RubberSeals();
        int[][] ends = {{0, 99999, 0}, {-99, 99, 20}, {0, 9999, 0}, {0, 99, 0}};
        for (int what = 0; what <= 3; what++) {
            String call = "let(" + what;
            due(19, call + ", least)", x.let(what, ends[what][0]), ends[what][2]);
            due(19, call + ", most)", x.let(what, ends[what][1]), ends[what][0]);
            due(19, call + ", beyond)", x.let(what, ends[what][1] + 1), BAD);
            due(19, call + ", below)", x.let(what, ends[what][0] - 1), BAD);
            due(19, call + ", stays)", x.let(what, ends[what][1]), ends[what][1]);
        }
        due(19, "let(4, 0)", x.let(4, 0), BAD);
        due(19, "let(-1, 0)", x.let(-1, 0), BAD);
    }

    private static void rest() {
        RubberSeals x = with("P1:10C5", "P2:10P6:50");
        due(20, "no SEAL", x.rest(), STATE);
        x.seal(0, 1, 0, 100, 1);
        dueFraction(20, "just touched", x, x.rest(), 0, 100, 1);
        x.let(0, 25);
        dueFraction(20, "PUSH 25", x, x.rest(), 0, 195, 2);
        x.let(1, 4);
        dueFraction(20, "in the cold", x, x.rest(), 0, 595, 6);
        x.let(1, 5);
        dueFraction(20, "not below its COLD", x, x.rest(), 0, 195, 2);
        x.let(0, 999);
        dueFraction(20, "just above 0", x, x.rest(), 0, 1, 10);
        x.let(0, 1000);
        dueFraction(20, "at 0", x, x.rest(), 2, 0, 1);
        x.let(0, 99999);
        dueFraction(20, "no lower", x, x.rest(), 2, 0, 1);
        x.seal(1, 0, 0, 97, 1);
        dueFraction(20, "on a PART", x, x.rest(), 1, 97, 1);
        x.let(0, 29);
        dueFraction(20, "above the PART", x, x.rest(), 0, 971, 10);
        x.let(0, 30);
        dueFraction(20, "by the push just on it", x, x.rest(), 1, 97, 1);
        x.seal(1, 0, 0, 120, 1);
        x.let(0, 0);
        dueFraction(20, "PUSH 0, a PART is the highest", x, x.rest(), 1, 120, 1);
        x.take(0);
        x.depth(1, 120);
        dueFraction(20, "a PART at 0", x, x.rest(), 1, 0, 1);
        x.depth(1, 121);
        dueFraction(20, "a PART below 0", x, x.rest(), 2, 0, 1);
        x.let(0, 5);
        dueFraction(20, "pushed over a PART below 0", x, x.rest(), 2, 0, 1);
        x.depth(1, 20);
        dueFraction(20, "no RUBBER", x, x.rest(), 1, 100, 1);
        x.take(1);
        x.seal(2, 1, 1, 100, 1);
        x.depth(2, 110);
        x.let(0, 0);
        dueFraction(20, "PUSH 0, all below 0", x, x.rest(), 2, 0, 1);
        x.depth(2, 0);
        x.let(0, 30);
        dueFraction(20, "in the second piece", x, x.rest(), 0, 96, 1);
        x.let(0, 120);
        dueFraction(20, "beyond the last", x, x.rest(), 0, 87, 1);
        x.seal(0, 0, 0, 95, 1);
        dueFraction(20, "on a PART in PLACE 0", x, x.rest(), 1, 95, 1);
    }

    private static void restOfSeveral() {
        RubberSeals x = with("P1:10", "P3:10", "P7:5P19:900C30", "P13:11P17:500");
        x.seal(0, 1, 0, 100, 1);
        x.seal(1, 1, 0, 100, 1);
        x.depth(1, 2);
        x.let(0, 40);
        dueFraction(20, "different depths", x, x.rest(), 0, 97, 1);
        x.let(0, 15);
        dueFraction(20, "on the higher one alone", x, x.rest(), 0, 197, 2);
        x.seal(2, 0, 0, 98, 1);
        x.seal(3, 0, 0, 99, 1);
        x.let(0, 500);
        dueFraction(20, "on the highest PART", x, x.rest(), 1, 99, 1);
        x.seal(1, 1, 1, 100, 3);
        x.depth(1, 0);
        x.take(2);
        x.take(3);
        x.let(0, 7);
        dueFraction(20, "10 u and 10 u", x, x.rest(), 0, 1993, 20);
        x.seal(1, 2, 1, 100, 1);
        x.let(0, 40);
        dueFraction(20, "10 u and 10 thirds", x, x.rest(), 0, 97, 1);
        x.seal(0, 1, 1, 100, 1);
        x.seal(1, 1, 2, 100, 1);
        x.seal(2, 1, 3, 100, 1);
        // At u = 8: 80/3 + 3 (5 + 895/12) + 88/13; each step more is 10/3 + 3 * 895/12 + 11/13.
        x.let(0, 300);
        // (300 - (80/3 + 15 + 895/4 + 88/13)) by (10/3 + 895/4 + 11/13) = 4339/156 by 35557/156
        dueFraction(20, "three stuffs in the cold", x, x.rest(), 0, 92L * 35557 - 4339, 35557);
    }

    private static RubberSeals twoDepths() {
        RubberSeals x = with("P1:10C5", "P2:1");
        x.seal(0, 1, 0, 100, 1);
        x.seal(1, 2, 0, 100, 1);
        x.depth(1, 2);
        x.let(0, 40);
        return x;
    }

    private static void press() {
        RubberSeals x = twoDepths();
        x.let(2, 20);
        dueFraction(21, "press(0)", x, x.press(0), 0, 30, 1);
        dueFraction(21, "press(1)", x, x.press(1), 1, 10, 1);
        x.let(2, 10);
        dueFraction(21, "not less than PRESSURE", x, x.press(1), 0, 10, 1);
        x.let(2, 11);
        dueFraction(21, "less than PRESSURE", x, x.press(1), 1, 10, 1);
        x.let(1, 4);
        x.let(0, 100);
        dueFraction(21, "press(0) in the cold", x, x.press(0), 0, 80, 1);
        dueFraction(21, "press(1) in the cold", x, x.press(1), 0, 20, 1);
        x.let(0, 30);
        dueFraction(21, "not squeezed", x, x.press(1), 1, 0, 1);
        x.seal(1, 1, 1, 100, 1);
        x.depth(1, 0);
        dueFraction(21, "a fraction", x, x.press(1), 1, 30, 61);
        due(21, "press(4)", x.press(4), BAD);
        due(21, "press(-1)", x.press(-1), BAD);
        dueFinding(21, "no SEAL", x, x.press(2), 1);
        x.seal(2, 0, 0, 100, 1);
        dueFinding(21, "a PART", x, x.press(2), 3);
    }

    private static void opens() {
        RubberSeals x = twoDepths();
        x.let(2, 10);
        due(22, "PRESSURE 10", x.opens(), 0);
        x.let(2, 11);
        due(22, "PRESSURE 11", x.opens(), 2);
        x.let(2, 31);
        due(22, "PRESSURE 31", x.opens(), 3);
        x.seal(3, 0, 0, 101, 1);
        due(22, "lifted by a PART, which does not open itself", x.opens(), 3);
        x.let(2, 0);
        due(22, "PRESSURE 0", x.opens(), 0);
    }

    private static void weakest() {
        RubberSeals x = with("P1:10", "P3:10");
        due(23, "none", x.weakest(), NONE);
        x.seal(0, 0, 0, 50, 1);
        due(23, "PARTS alone", x.weakest(), NONE);
        x.seal(1, 1, 0, 100, 1);
        x.seal(2, 1, 1, 100, 1);
        x.seal(3, 1, 1, 100, 1);
        x.let(0, 50);
        dueAsked(23, "the first of alike ones", x, x.weakest(), 2, 10);
        x.let(0, 49);
        dueAsked(23, "cut", x, x.weakest(), 2, 9);
        x.depth(3, 1);
        dueAsked(23, "the last", x, x.weakest(), 3, 7);
        x.seal(0, 1, 1, 60, 1);
        dueAsked(23, "PLACE 0", x, x.weakest(), 0, 0);
        x.take(0);
        x.depth(1, 1);
        x.depth(2, 1);
        x.depth(3, 0);
        x.let(0, 1);
        dueAsked(23, "two not squeezed", x, x.weakest(), 1, 0);
        x.take(1);
        x.take(2);
        x.take(3);
        due(23, "none again", x.weakest(), NONE);
        due(23, "asked() stays", x.asked(), 0);
    }

    private static void leak() {
        RubberSeals x = with("P2:1");
        due(24, "none", x.leak(), 0);
        x.seal(0, 1, 0, 100, 1);
        x.seal(1, 1, 0, 100, 1);
        x.let(0, 1);
        x.let(2, 3);
        due(24, "each cut by itself", x.leak(), 4);
        x.seal(1, 1, 0, 100, 9);
        // Each presses 1 by 10: 1 * 29/10 and 9 * 29/10.
        due(24, "times AREA, then cut", x.leak(), 28);
        x.seal(2, 0, 0, 100, 9);
        due(24, "a PART does not leak", x.leak(), 30);
        x.take(2);
        x.seal(1, 1, 0, 60, 2);
        x.let(0, 3);
        due(24, "what OPENS alone", x.leak(), 6);
        x.let(2, 0);
        due(24, "PRESSURE 0", x.leak(), 0);
    }

    private static void through() {
        RubberSeals x = with("P1:10G7T99", "P1:10");
        x.seal(0, 1, 0, 100, 3);
        x.seal(1, 2, 0, 60, 2);
        x.seal(2, 1, 1, 100, 1);
        x.seal(3, 0, 0, 50, 1);
        x.depth(1, 10);
        x.let(2, 50);
        x.let(0, 100);
        // PLACES 0 and 2 push 30 u and 10 u: h is 97 and a half.
        dueFraction(25, "through(0)", x, x.through(0), 1, 140, 13);
        dueFraction(25, "not squeezed: FREE HEIGHT", x, x.through(1), 1, 35, 3);
        dueFraction(25, "no GAS", x, x.through(2), 1, 0, 1);
        x.depth(0, 5);
        x.let(0, 10);
        // PLACE 2 alone is squeezed, by 1; PLACE 0 has its FREE HEIGHT yet.
        dueFraction(25, "through(0) by 100", x, x.through(0), 1, 21, 2);
        x.let(0, 340);
        // 10 u and 30 (u less 5) are 340 at 12 and a quarter: PLACE 0 is pressed to 87 3/4 and 5.
        dueFraction(25, "h and DEPTH", x, x.through(0), 1, 600, 53);
        due(25, "through(4)", x.through(4), BAD);
        due(25, "through(-1)", x.through(-1), BAD);
        dueFinding(25, "a PART", x, x.through(3), 3);
        x.take(3);
        dueFinding(25, "no SEAL", x, x.through(3), 1);
        x.let(0, 99999);
        dueFinding(25, "to a height of 0", x, x.through(2), 4);
        dueFraction(25, "at 0, but deep", x, x.through(0), 1, 210, 1);
        x.depth(0, 0);
        x.age(9);
        due(25, "aged away", toldAt(x, 0, 1), 0);
        dueFinding(25, "FREE HEIGHT 0", x, x.through(0), 4);
        RubberSeals y = with("P1:10G1");
        y.seal(0, 1, 0, 100, 1);
        y.let(2, 1);
        y.let(0, 999);
        dueFraction(25, "to a height of a tenth", y, y.through(0), 1, 10, 1);
        y.let(0, 1);
        dueFraction(25, "squeezed by a tenth", y, y.through(0), 1, 10, 999);
    }

    private static void age() {
        RubberSeals x = with("P1:10T20", "P1:10T50", "P1:10");
        due(26, "none", x.age(1), 0);
        x.seal(0, 1, 0, 100, 1);
        x.seal(1, 1, 1, 100, 1);
        x.seal(2, 2, 2, 100, 1);
        x.seal(3, 0, 0, 50, 1);
        x.let(0, 150);
        due(26, "age(1) at a squeeze of 5", x.age(1), 2);
        due(26, "less by 1", toldAt(x, 0, 1), 99);
        due(26, "less by 2 and a half, cut", toldAt(x, 1, 1), 98);
        due(26, "no SET", toldAt(x, 2, 1), 100);
        // Now 99, 98, 100 push 150: h is 94.
        due(26, "age(9): 180 and 450 are 100 in a hundred", x.age(9), 2);
        due(26, "all of 5", toldAt(x, 0, 1), 94);
        due(26, "all of 4", toldAt(x, 1, 1), 94);
        x.let(0, 1);
        due(26, "what is not squeezed does not age", x.age(9), 0);
        due(26, "age(0)", x.age(0), BAD);
        due(26, "age(10)", x.age(10), BAD);
        x.seal(0, 1, 0, 100, 1);
        x.take(1);
        x.take(2);
        x.let(0, 40);
        due(26, "less than 1 is cut", x.age(1), 0);
        due(26, "it stays", toldAt(x, 0, 1), 100);
    }

    private static void swell() {
        RubberSeals x = with("P1:10W30", "P1:10W99", "P1:10");
        due(27, "none", x.swell(), 0);
        x.seal(0, 1, 0, 99, 1);
        x.seal(1, 2, 2, 100, 1);
        x.seal(2, 0, 0, 100, 1);
        due(27, "2.97, cut", x.swell(), 2);
        due(27, "FREE HEIGHT", toldAt(x, 0, 1), 101);
        due(27, "HEIGHT stays", toldAt(x, 0, 2), 99);
        due(27, "3.03, cut", x.swell(), 3);
        write(x, 3, "P1:10W9");
        x.stuff(3, 3);
        x.seal(0, 1, 3, 111, 1);
        due(27, "0.999, cut", x.swell(), 0);
        x.seal(0, 1, 1, 400, 1);
        int[] more = {39, 43, 47, 52, 57, 63, 69, 30, 0, 0};
        for (int i = 0; i < more.length; i++) due(27, "800 at most, step " + i, x.swell(), more[i]);
        due(27, "800", toldAt(x, 0, 1), 800);
    }

    private static void renew() {
        RubberSeals x = with("P1:10W30T99");
        x.seal(0, 2, 0, 100, 1);
        x.stretch(0, 20);
        dueAsked(28, "renew(0)", x, x.renew(0), 1, 10);
        due(28, "FREE HEIGHT", toldAt(x, 0, 1), 100);
        due(28, "not STRETCHED", x.mark(0, 2), 0);
        x.swell();
        dueAsked(28, "below 0", x, x.renew(0), 1, -3);
        x.let(0, 50);
        x.age(1);
        dueAsked(28, "renew(0) when AGED", x, x.renew(0), 1, 4);
        x.seal(1, 0, 0, 70, 1);
        dueAsked(28, "a PART", x, x.renew(1), 1, 0);
        due(28, "renew(4)", x.renew(4), BAD);
        due(28, "renew(-1)", x.renew(-1), BAD);
        dueFinding(28, "no SEAL", x, x.renew(2), 1);
    }

    private static void blown() {
        RubberSeals x = with("P1:10C90", "P3:1");
        x.seal(0, 1, 0, 100, 1);
        x.seal(1, 4, 0, 100, 1);
        x.seal(2, 0, 0, 100, 1);
        due(29, "no PRESSURE", x.blown(0), 0);
        x.let(2, 1000);
        x.let(3, 10);
        due(29, "10000 is not more than 100 times 100, however cold", x.blown(0), 0);
        x.let(2, 1001);
        due(29, "10010 is", x.blown(0), 1);
        due(29, "BACKED never", x.blown(1), 0);
        x.let(3, 0);
        due(29, "no GAP", x.blown(0), 0);
        x.seal(0, 3, 1, 100, 1);
        x.let(3, 1);
        x.let(2, 333);
        due(29, "333 by 333 and a third", x.blown(0), 0);
        x.let(2, 334);
        due(29, "334 by 333 and a third", x.blown(0), 1);
        due(29, "a LIP is not asked whether it FOLLOWS by that", x.mark(0, 3), 0);
        due(29, "asked of the BACKED one", x.mark(1, 4), 1);
        due(29, "blown(4)", x.blown(4), BAD);
        due(29, "blown(-1)", x.blown(-1), BAD);
        dueFinding(29, "a PART", x, x.blown(2), 3);
        dueFinding(29, "no SEAL", x, x.blown(3), 1);
    }

    private static void ends() {
        RubberSeals x = with("P1:10", "P1:999", "P1:1T99", "P3:10");
        x.seal(0, 1, 0, 100, 1);
        x.let(0, 50);
        dueAsked(30, "one alone: a does not count", x, x.ends(0, 3, 10), 40, 60);
        x.let(0, 5);
        dueAsked(30, "less than 0 is 0", x, x.ends(0, 20, 10), 0, 15);
        x.seal(1, 1, 0, 100, 1);
        x.let(0, 40);
        dueAsked(30, "two, one higher by 2", x, x.ends(0, 1, 0), 10, 30);
        dueAsked(30, "ends(1, 0, 0)", x, x.ends(1, 0, 0), 20, 20);
        x.let(0, 0);
        dueAsked(30, "no PUSH", x, x.ends(0, 20, 0), 0, 0);
        x.let(0, 40);
        x.seal(2, 0, 0, 99, 1);
        dueAsked(30, "a PART stays as it is", x, x.ends(0, 1, 0), 0, 20);
        x.take(2);
        x.seal(1, 1, 3, 100, 1);
        x.let(0, 41);
        dueAsked(30, "cut", x, x.ends(1, 0, 0), 10, 10);
        x.take(1);
        x.seal(0, 1, 1, 400, 1);
        x.let(0, 99999);
        dueAsked(30, "above 99999", x, x.ends(0, 0, 999), 99000, 100998);
        x.seal(0, 1, 2, 50, 1);
        x.age(9);
        due(30, "aged away", toldAt(x, 0, 1), 0);
        dueAsked(30, "FREE HEIGHT below 0", x, x.ends(0, 20, 0), 0, 20);
        due(30, "nothing is changed", toldAt(x, 0, 1), 0);
        due(30, "THE LID's PUSH stays", x.let(0, 1), 99999);
        due(30, "ends(4, 0, 0)", x.ends(4, 0, 0), BAD);
        due(30, "ends(-1, 0, 0)", x.ends(-1, 0, 0), BAD);
        due(30, "ends(0, 21, 0)", x.ends(0, 21, 0), BAD);
        due(30, "ends(0, -1, 0)", x.ends(0, -1, 0), BAD);
        due(30, "ends(0, 0, 1000)", x.ends(0, 0, 1000), BAD);
        due(30, "ends(0, 0, -1)", x.ends(0, 0, -1), BAD);
        dueFinding(30, "no SEAL", x, x.ends(1, 0, 0), 1);
        x.seal(1, 0, 0, 100, 1);
        dueFinding(30, "a PART", x, x.ends(1, 0, 0), 3);
    }

    private static void sure() {
        RubberSeals x = with("P1:10");
        x.let(2, 9999);
        due(31, "no SEAL", x.sure(0, 0), 2);
        x.seal(3, 0, 0, 90, 1);
        due(31, "no RUBBER", x.sure(20, 999), 2);
        x.seal(0, 1, 0, 100, 1);
        x.seal(1, 1, 0, 100, 1);
        x.let(0, 40);
        x.let(2, 10);
        due(31, "never", x.sure(1, 0), 2);
        x.let(2, 11);
        due(31, "at some", x.sure(1, 0), 1);
        due(31, "never with a 0", x.sure(0, 0), 2);
        due(31, "by f alone", x.sure(0, 19), 1);
        x.let(2, 21);
        due(31, "at all", x.sure(1, 0), 0);
        due(31, "sure(21, 0)", x.sure(21, 0), BAD);
        due(31, "sure(-1, 0)", x.sure(-1, 0), BAD);
        due(31, "sure(0, 1000)", x.sure(0, 1000), BAD);
        due(31, "sure(0, -1)", x.sure(0, -1), BAD);
    }

    private static void follows() {
        RubberSeals x = with("P1:100C90", "P3:1", "P1:999");
        x.seal(0, 3, 0, 100, 1);
        x.seal(1, 2, 0, 100, 1);
        x.seal(2, 4, 0, 100, 1);
        due(32, "follows(0, 500, 3), however cold", x.follows(0, 500, 3), 2);
        due(32, "follows(0, 501, 3)", x.follows(0, 501, 3), 1);
        due(32, "follows(0, 1000, 3)", x.follows(0, 1000, 3), 1);
        due(32, "follows(0, 1001, 3)", x.follows(0, 1001, 3), 0);
        due(32, "mark(0, 3)", x.mark(0, 3), 4);
        int[][] bad = {{4, 1, 1}, {-1, 1, 1}, {0, 0, 1}, {0, 10000, 1}, {0, 1, 0}, {0, 1, 21}, {3, 1, 21}};
        for (int[] b : bad) due(32, "a bad one", x.follows(b[0], b[1], b[2]), BAD);
        dueFinding(32, "a RING", x, x.follows(1, 1, 1), 3);
        dueFinding(32, "a BACKED one", x, x.follows(2, 1, 1), 3);
        dueFinding(32, "no SEAL", x, x.follows(3, 1, 1), 1);
        x.seal(0, 3, 1, 100, 1);
        due(32, "B is 3", x.follows(0, 1, 1), 2);
        due(32, "2 by 3", x.follows(0, 2, 1), 1);
        due(32, "3 by 3", x.follows(0, 3, 1), 1);
        due(32, "4 by 3", x.follows(0, 4, 1), 0);
        x.seal(0, 3, 2, 100, 1);
        due(32, "follows(0, 4995, 20)", x.follows(0, 4995, 20), 2);
        due(32, "follows(0, 4996, 20)", x.follows(0, 4996, 20), 1);
        due(32, "follows(0, 9999, 20)", x.follows(0, 9999, 20), 0);
    }

    private static void strip() {
        RubberSeals x = with("P2:30", "P5:30P6:300", "P10:100", "P3:10");
        layAll(x, 0, 1, 15, 4, 60);
        due(33, "the first alone", x.strip(0, 0), 1);
        due(33, "off by 5", x.strip(0, 5), 1);
        due(33, "off by 20", x.strip(0, 20), 5);
        due(33, "off by 35", x.strip(0, 35), 5);
        due(33, "off by 36", x.strip(0, 36), 7);
        due(33, "off by 46", x.strip(0, 46), 7);
        due(33, "off by 47", x.strip(0, 47), 15);
        due(33, "off by 99", x.strip(0, 99), 15);
        layAll(x, 0, 0, 0);
        due(33, "at 0 all are alike", x.strip(0, 0), 15);
        layAll(x, 0, 2, 7);
        due(33, "6 and 2 thirds by 7, off by 0", x.strip(0, 0), 0);
        due(33, "6 and 2 thirds by 7, off by 1", x.strip(0, 1), 8);
        layAll(x, 0, 20, 9999, 0, 9999);
        due(33, "the greatest ones", x.strip(0, 99), 0);
        int[][] unlike = {{21, 0}, {-1, 0}, {0, 10000}, {0, -1}, {0, 0, 21, 0}, {0, 0, 0, -1}};
        for (int[] pairs : unlike) {
            layAll(x, 0, pairs);
            dueFinding(33, "a u, a push", x, x.strip(0, 0), 3);
        }
        layAll(x, 0, 1, 15, 4);
        dueFinding(33, "not by twos", x, x.strip(0, 0), 5);
        layAll(x, 0, 99, 15, 4);
        dueFinding(33, "SIZE ahead of UNLIKE", x, x.strip(0, 0), 5);
        x.row(0, 0);
        dueFinding(33, "none", x, x.strip(0, 0), 5);
        dueFinding(33, "no ROW", x, x.strip(1, 0), 1);
        due(33, "strip(6, 0)", x.strip(6, 0), BAD);
        due(33, "strip(-1, 0)", x.strip(-1, 0), BAD);
        due(33, "strip(0, 100)", x.strip(0, 100), BAD);
        due(33, "strip(0, -1)", x.strip(0, -1), BAD);
        RubberSeals none = new RubberSeals();
        layAll(none, 0, 0, 0);
        due(33, "no STUFFS", none.strip(0, 99), 0);
    }

    private static void parting() {
        RubberSeals x = with("P1:10", "P1:20P2:30", "P3:1", "P3:2", "P5:500P6:501P7:502P8:503");
        dueAsked(34, "the first of alike ones", x, x.parting(3), 1, 10);
        dueAsked(34, "cut", x, x.parting(12), 20, 6);
        dueAsked(34, "in the middle", x, x.parting(17), 5, 450);
        dueAsked(34, "of three, the least and the greatest", x, x.parting(13), 20, 193);
        due(34, "one", x.parting(4), BAD);
        due(34, "none", x.parting(0), BAD);
        due(34, "one that is missing", x.parting(32), BAD);
        due(34, "parting(64)", x.parting(64), BAD);
        due(34, "parting(67)", x.parting(67), BAD);
        due(34, "parting(-1)", x.parting(-1), BAD);
        dueFinding(34, "one of them is missing", x, x.parting(33), 1);
        dueFinding(34, "one of all is missing", x, x.parting(63), 1);
        RubberSeals alike = with("P2:10", "P2:10P4:20");
        dueAsked(34, "all alike", alike, alike.parting(3), 1, 0);
    }

    private static void batch() {
        RubberSeals x = new RubberSeals();
        dueFraction(35, "batch(10, 3, 2, 0)", x, x.batch(10, 3, 2, 0), 1, 7, 15);
        dueFraction(35, "batch(10, 3, 2, 1)", x, x.batch(10, 3, 2, 1), 1, 14, 15);
        dueFraction(35, "batch(10, 3, 2, 2)", x, x.batch(10, 3, 2, 2), 1, 1, 1);
        dueFraction(35, "batch(5, 5, 3, 2)", x, x.batch(5, 5, 3, 2), 1, 0, 1);
        dueFraction(35, "batch(5, 0, 5, 0)", x, x.batch(5, 0, 5, 0), 1, 1, 1);
        dueFraction(35, "batch(40, 20, 10, 5)", x, x.batch(40, 20, 10, 5), 1, 210533, 328042);
        dueFraction(35, "batch(40, 1, 10, 0)", x, x.batch(40, 1, 10, 0), 1, 3, 4);
        dueFraction(35, "batch(1, 1, 1, 1)", x, x.batch(1, 1, 1, 1), 1, 1, 1);
        int[][] bad = {
            {0, 0, 1, 0}, {41, 0, 1, 0}, {-1, 0, 1, 0}, {5, 6, 1, 0}, {5, -1, 1, 0}, {5, 2, 0, 0}, {5, 2, 6, 0}, {40, 2, 11, 0},
            {5, 2, 2, 3}, {5, 2, 2, -1}, {5, 2, -1, 0}, {HIGH, HIGH, HIGH, HIGH},
        };
        for (int[] b : bad) due(35, "a bad batch", x.batch(b[0], b[1], b[2], b[3]), BAD);
        dueFraction(35, "what was told stays", x, x.batch(0, 0, 0, 0), BAD, 1, 1);
    }

    private static void led() {
        RubberSeals x = with("P1:10T99", "P1:10C5", "P1:10");
        due(36, "nothing OPENS", x.led(), STATE);
        x.seal(0, 1, 0, 100, 1);
        x.seal(1, 0, 0, 95, 1);
        x.let(0, 200);
        x.let(2, 40);
        due(36, "pressed by 50", x.led(), STATE);
        x.age(1);
        due(36, "SET alone", x.led(), 1);
        x.let(2, 20);
        due(36, "SET, or half of PRESSURE", x.led(), 5);
        x.let(2, 21);
        due(36, "half, cut", x.led(), 5);
        x.let(2, 22);
        due(36, "half is 11", x.led(), 1);
        x.let(2, 51);
        due(36, "none would", x.led(), 0);
        x.let(2, 11);
        x.take(0);
        x.take(1);
        x.seal(0, 1, 2, 100, 1);
        x.seal(1, 1, 1, 100, 1);
        x.let(0, 40);
        x.let(1, 4);
        due(36, "the cold, or half", x.led(), 6);
        x.let(2, 21);
        due(36, "20 degrees are not enough", x.led(), 4);
        x.let(2, 20);
        x.let(1, 99);
        due(36, "warm: nothing OPENS", x.led(), STATE);
    }

    private static void ledByOneAlone() {
        RubberSeals x = with("P1:10", "P1:10W20", "P1:10C30", "P1:10W10T50", "P1:10C21", "P1:10C20");
        x.seal(0, 2, 0, 100, 1);
        x.seal(1, 0, 0, 93, 1);
        x.let(0, 500);
        x.stretch(0, 10);
        x.let(2, 40);
        due(36, "the stretch, or half", x.led(), 12);
        x.let(2, 70);
        due(36, "the stretch alone", x.led(), 8);
        x.let(2, 71);
        due(36, "more than the stretch", x.led(), 0);
        // 101 times 199 by 200 is 100, cut: the stretch took 1.
        x.seal(0, 2, 0, 101, 1);
        x.stretch(0, 1);
        x.seal(1, 0, 0, 98, 1);
        x.let(2, 30);
        due(36, "a stretch that was cut", x.led(), 12);
        // A swollen seal is not lowered to what it was put as.
        x.seal(0, 1, 1, 104, 1);
        x.seal(1, 1, 0, 104, 1);
        x.swell();
        x.let(0, 20);
        x.let(2, 10);
        due(36, "more than now alone", x.led(), 0);
        // COLD above 20 stays cold at 20 degrees.
        x.seal(0, 1, 0, 100, 1);
        x.seal(1, 1, 2, 100, 1);
        x.let(0, 40);
        x.let(1, 0);
        x.let(2, 15);
        due(36, "cold at 20, too", x.led(), 4);
        x.seal(1, 1, 4, 100, 1);
        due(36, "COLD 21 is cold at 20, too", x.led(), 4);
        x.seal(1, 1, 5, 100, 1);
        due(36, "COLD 20 is not cold at 20", x.led(), 6);
        // STRETCHED by 10 of 100 and then AGED from 95 to 91: SET gives back 4, the stretch 5.
        x.seal(0, 2, 3, 100, 1);
        x.seal(1, 0, 0, 87, 1);
        x.let(0, 500);
        x.stretch(0, 10);
        x.age(1);
        x.let(2, 80);
        due(36, "SET back to the stretched height, the stretch, or half", x.led(), 13);
        x.let(2, 81);
        due(36, "the stretch beyond what it was, or half", x.led(), 12);
        due(36, "nothing is changed", toldAt(x, 0, 1), 91);
    }

    private static void choose() {
        RubberSeals x = with("P2:30", "P5:30P6:300", "P10:100", "P1:10", "P1:10");
        layAll(x, 1, 9, 5, 3, 4, 4, 999);
        dueAsked(37, "no RUBBER", x, x.choose(1, 1, 1), 0, 0);
        x.seal(0, 1, 0, 100, 1);
        x.seal(2, 1, 1, 100, 2);
        x.let(0, 120);
        x.let(2, 25);
        dueAsked(37, "the cheapest", x, x.choose(7, 1, 9), 9, 303);
        dueAsked(37, "of two", x, x.choose(3, 1, 4), 15, 202);
        dueAsked(37, "of one", x, x.choose(4, 1, 1), 9, 303);
        x.let(2, 41);
        due(37, "all alike press 40", x.choose(4, 1, 1), NONE);
        due(37, "asked() stays", x.asked(), 303);
        x.let(2, 40);
        due(37, "40 hold", x.choose(4, 1, 1), 9);
        layAll(x, 1, 0, 0, 0, 0, 0, 0);
        x.let(2, 0);
        dueAsked(37, "of alike ones the first by PLACES", x, x.choose(28, 1, 9), 0, 303);
        x.let(2, 40);
        dueAsked(37, "the first that hold", x, x.choose(24, 1, 4), 0, 404);
        layAll(x, 1, 1, 1, 9, 2, 1, 1);
        dueAsked(37, "of 3 and 4", x, x.choose(24, 1, 4), 3, 505);
        layAll(x, 1, 0, 0, 0, 2, 2, 0);
        dueAsked(37, "alike prices of 3 and 4", x, x.choose(24, 1, 4), 6, 404);
        due(37, "the SEALS keep theirs", x.mark(2, 1), 1);
        x.seal(3, 0, 0, 50, 9);
        x.seal(1, 3, 2, 100, 1);
        layAll(x, 1, 999, 999, 999, 999, 999, 999);
        x.let(2, 0);
        dueAsked(37, "the dearest", x, x.choose(31, 1, 125), 3996, 111);
        // Which stuff of two is stiff depends on its COLD: the same stuff everywhere shares alike.
        RubberSeals cold = with("P1:10C5", "P1:10");
        cold.seal(0, 1, 0, 100, 1);
        cold.seal(1, 1, 0, 100, 1);
        layAll(cold, 0, 3, 3, 0, 0, 0, 0);
        cold.let(0, 40);
        cold.let(1, 4);
        cold.let(2, 20);
        dueAsked(37, "both stiff", cold, cold.choose(3, 0, 4), 6, 11);
        layAll(cold, 0, 3, 2, 0, 0, 0, 0);
        dueAsked(37, "both soft are cheaper than one of each", cold, cold.choose(3, 0, 4), 4, 22);
        RubberSeals mixed = with("P1:10", "P1:20");
        mixed.seal(0, 1, 0, 100, 1);
        mixed.seal(1, 1, 0, 100, 1);
        mixed.depth(1, 1);
        mixed.let(0, 40);
        mixed.let(2, 20);
        layAll(mixed, 0, 1, 5, 0, 0, 0, 0);
        dueAsked(37, "the stiffer one in the deeper PLACE alone", mixed, mixed.choose(3, 0, 4), 6, 21);
        mixed.depth(0, 2);
        dueAsked(37, "the other way round", mixed, mixed.choose(3, 0, 4), 6, 12);
        cold.seal(1, 1, 0, 100, 3);
        cold.let(2, 9);
        layAll(cold, 0, 1, 2, 0, 0, 0, 0);
        dueAsked(37, "by AREAS", cold, cold.choose(3, 0, 4), 4, 11);
    }

    private static void chooseRefused() {
        RubberSeals x = with("P2:30", "P5:30P6:300", "P10:100");
        x.seal(0, 1, 0, 100, 1);
        x.seal(2, 1, 1, 100, 2);
        layAll(x, 1, 9, 5, 3, 0, 0, 0);
        due(37, "choose(0, 1, 9)", x.choose(0, 1, 9), BAD);
        due(37, "choose(64, 1, 9)", x.choose(64, 1, 9), BAD);
        due(37, "choose(-1, 1, 9)", x.choose(-1, 1, 9), BAD);
        due(37, "choose(7, 6, 9)", x.choose(7, 6, 9), BAD);
        due(37, "choose(7, -1, 9)", x.choose(7, -1, 9), BAD);
        due(37, "choose(7, 1, 1297)", x.choose(7, 1, 1297), BAD);
        due(37, "choose(7, 1, -1)", x.choose(7, 1, -1), BAD);
        due(37, "choose(7, 1, 8)", x.choose(7, 1, 8), SPENT);
        due(37, "choose(7, 1, 0)", x.choose(7, 1, 0), SPENT);
        dueFinding(37, "a STUFF is missing, SPENT last", x, x.choose(8, 1, 0), 1);
        dueFinding(37, "the ROW is missing, SPENT last", x, x.choose(7, 2, 0), 1);
        layAll(x, 1, 9, 5, 3, 0, 0);
        dueFinding(37, "five prices", x, x.choose(7, 1, 0), 5);
        layAll(x, 1, 9, 5, 3, 0, 0, 0, -1);
        dueFinding(37, "seven prices, SIZE ahead of UNLIKE", x, x.choose(7, 1, 9), 5);
        layAll(x, 1, 9, 5, 3, 0, 0, -1);
        dueFinding(37, "a price of none of the set", x, x.choose(7, 1, 0), 3);
        layAll(x, 1, 1000, 5, 3, 0, 0, 0);
        dueFinding(37, "a price of 1000", x, x.choose(7, 1, 9), 3);
        RubberSeals all = with("P1:1", "P1:2", "P1:3", "P1:4", "P1:5", "P1:6");
        for (int p = 0; p < 4; p++) all.seal(p, 1 + p, p, 100, 1);
        layAll(all, 0, 6, 5, 4, 3, 2, 1);
        due(37, "1296 ways by 1295 turns", all.choose(63, 0, 1295), SPENT);
        dueAsked(37, "1296 ways", all, all.choose(63, 0, 1296), 4, 6666);
        all.let(2, 9999);
        due(37, "none of 1296 hold", all.choose(63, 0, 1296), NONE);
    }

    private static void sniff() {
        RubberSeals x = new RubberSeals();
        layAll(x, 2, 100, 50, 33, 25);
        due(38, "at 0", x.sniff(2, 0), 1);
        layAll(x, 2, 25, 33, 50, 100);
        due(38, "at 3", x.sniff(2, 0), 8);
        layAll(x, 2, 40, 80, 40, 26);
        due(38, "at 1", x.sniff(2, 0), 2);
        layAll(x, 2, 0, 0, 0, 0);
        due(38, "no leak is none", x.sniff(2, 0), 0);
        due(38, "1 off by 1", x.sniff(2, 1), 15);
        layAll(x, 2, 0, 0, 1, 0);
        due(38, "1 at 2", x.sniff(2, 0), 4);
        layAll(x, 2, 10, 20, 20, 10);
        due(38, "off by 6", x.sniff(2, 6), 0);
        due(38, "off by 7", x.sniff(2, 7), 6);
        layAll(x, 2, 999, 499, 333, 249);
        due(38, "999", x.sniff(2, 0), 1);
        layAll(x, 2, 1000, 500, 333, 250);
        due(38, "1000 is too much", x.sniff(2, 0), 0);
        due(38, "1000 off by 1", x.sniff(2, 1), 1);
        layAll(x, 2, 9999, 9999, 9999, 9999);
        due(38, "9999", x.sniff(2, 99), 0);
        layAll(x, 2, 10000, 0, 0, 0);
        dueFinding(38, "10000", x, x.sniff(2, 0), 3);
        layAll(x, 2, 0, 0, 0, -1);
        dueFinding(38, "-1", x, x.sniff(2, 0), 3);
        layAll(x, 2, 0, 0, 0);
        dueFinding(38, "three", x, x.sniff(2, 0), 5);
        layAll(x, 2, 0, 0, 0, 0, -1);
        dueFinding(38, "five", x, x.sniff(2, 0), 5);
        dueFinding(38, "no ROW", x, x.sniff(1, 0), 1);
        due(38, "sniff(6, 0)", x.sniff(6, 0), BAD);
        due(38, "sniff(-1, 0)", x.sniff(-1, 0), BAD);
        due(38, "sniff(2, 100)", x.sniff(2, 100), BAD);
        due(38, "sniff(2, -1)", x.sniff(2, -1), BAD);
    }

    private static void asked() {
        RubberSeals x = with("P1:10T5");
        x.row(0, 1);
        x.lay(0, 0, 7);
        x.lay(0, 0, 8);
        due(39, "by lay()", x.asked(), 7);
        x.lay(0, 1, 8);
        x.lay(9, 0, 8);
        x.mean(1);
        x.about(0, 9);
        x.told(0, 0);
        x.weakest();
        x.renew(0);
        x.ends(0, 0, 0);
        x.parting(3);
        x.choose(1, 1, 1);
        due(39, "refused ones, and NONE, tell nothing", x.asked(), 7);
        x.rest();
        x.push(0, 3);
        x.batch(3, 1, 1, 0);
        x.count(3);
        due(39, "others tell nothing", x.asked(), 7);
        x.mean(0);
        due(39, "by mean()", x.asked(), 8);
        x.about(0, 1);
        due(39, "by about()", x.asked(), 5);
    }

    private static void fractions() {
        RubberSeals x = with("P3:10G9");
        x.push(0, 1);
        due(40, "upper() by push()", x.upper(), 10);
        due(41, "lower() by push()", x.lower(), 3);
        x.push(0, 100);
        x.push(1, 1);
        x.rest();
        x.press(0);
        x.through(0);
        x.batch(0, 0, 0, 0);
        x.lay(0, 0, 0);
        due(40, "refused ones tell nothing", x.upper(), 10);
        due(41, "refused ones tell nothing", x.lower(), 3);
        x.seal(0, 1, 0, 100, 1);
        x.let(0, 5);
        x.let(2, 7);
        x.opens();
        x.leak();
        x.weakest();
        x.ends(0, 1, 1);
        due(40, "others tell nothing", x.upper(), 10);
        x.rest();
        due(40, "by rest()", x.upper(), 197);
        due(41, "by rest()", x.lower(), 2);
        x.press(0);
        due(40, "by press()", x.upper(), 5);
        due(41, "by press()", x.lower(), 1);
        x.through(0);
        due(40, "by through()", x.upper(), 126);
        due(41, "by through()", x.lower(), 197);
        x.batch(4, 2, 1, 0);
        due(40, "by batch()", x.upper(), 1);
        due(41, "by batch()", x.lower(), 2);
        x.push(0, 0);
        due(40, "0 by 1", x.upper(), 0);
        due(41, "0 by 1", x.lower(), 1);
    }

    private static void count() {
        RubberSeals x = with("P1:10", "P1:20");
        for (int p = 0; p < 4; p++) x.seal(p, p, 0, 100, 1);
        x.row(0, 0);
        x.row(1, 1);
        x.row(2, 1);
        x.text(0, 0);
        int[] want = {4, 3, 2, 2, 3, 2};
        for (int what = 0; what <= 5; what++) due(42, "count(" + what + ")", x.count(what), want[what]);
        x.seal(0, 4, 0, 100, 1);
        due(42, "BACKED ones are RINGS", x.count(2), 3);
        x.tear(1);
        x.take(2);
        int[] less = {3, 3, 2, 2, 2, 2};
        for (int what = 0; what <= 5; what++) due(42, "count(" + what + ") then", x.count(what), less[what]);
        due(42, "count(6)", x.count(6), BAD);
        due(42, "count(-1)", x.count(-1), BAD);
    }

    private static void findings() {
        RubberSeals x = new RubberSeals();
        x.lay(0, 0, 0);
        due(43, "NOTHING", x.finding(), 1);
        x.row(0, 0);
        due(43, "it stays behind what is not refused", x.finding(), 1);
        x.lay(0, 0, 0);
        due(43, "BEYOND", x.finding(), 2);
        x.row(9, 0);
        due(43, "it stays behind BAD", x.finding(), 2);
        x.strip(0, 0);
        due(43, "SIZE", x.finding(), 5);
        x.mean(0);
        due(43, "NOUGHT", x.finding(), 4);
        x.mean(0);
        x.seal(0, 0, 0, 100, 1);
        x.press(0);
        due(43, "UNLIKE", x.finding(), 3);
        x.led();
        x.choose(1, 0, 0);
        due(43, "NOTHING again", x.finding(), 1);
        int[] want = {2, 1, 1, 2, 1};
        for (int f = 1; f <= 5; f++) due(44, "findings(" + f + ")", x.findings(f), want[f - 1]);
        due(44, "findings(0)", x.findings(0), BAD);
        due(44, "findings(6)", x.findings(6), BAD);
        due(44, "findings(LOW)", x.findings(LOW), BAD);
    }

    private static void digest() {
        RubberSeals x = new RubberSeals();
        long empty = mixed(0, 0, 0, 0, 0, 0, 0, 20, 0, 0, 0, -1, 0, -1, 0, -1, 0, -1,
            -1, -1, -1, -1, -1, -1, -1, -1, -1, -1, -1, -1, -1, -1, -1, -1);
        due(45, "of a new object", x.digest(), empty);
        write(x, 1, "P1:10P3:20T5W6G7C-8");
        x.stuff(2, 1);
        x.text(1, 2);
        x.put(1, 1, 200);
        x.row(4, 2);
        x.lay(4, 0, -7);
        x.row(5, 0);
        x.seal(0, 0, 9, 60, 3);
        x.seal(1, 1, 2, 70, 4);
        x.seal(3, 3, 2, 80, 5);
        x.stretch(3, 20);
        x.follows(3, 1, 1);
        x.depth(2, 11);
        x.depth(3, 12);
        x.let(0, 1);
        x.let(1, -2);
        x.let(2, 3);
        x.let(3, 4);
        long full = mixed(3, 2, 1, 1, 2, 1, 1, -2, 3, 4,
            0, 0, 60, 60, 3, -1, -1, 0, 1, 70, 70, 4, 2, -1, 11, -1, 12, 3, 72, 80, 5, 2, 20,
            -1, -1, 2, 5, -8, 6, 7, 1, 10, 3, 20, -1, -1, -1,
            -1, -1, -1, -1, 2, -7, 0, 0,
            -1, 2, 32, -56, -1, -1);
        due(45, "of all kinds", x.digest(), full);
        x.tear(4);
        x.row(4, 2);
        x.lay(4, 0, -7);
        due(45, "what was torn and made again", x.digest(), full);
    }

    /** Each refusal leaves all that digest(), asked(), upper() and lower() tell. */
    private static void refusedChangesNothing() {
        RubberSeals x = with("P1:10T50W50G5", "P3:10");
        x.seal(0, 0, 0, 95, 1);
        x.seal(1, 1, 0, 100, 2);
        layAll(x, 0, 5, 6);
        x.let(0, 77);
        x.push(1, 1);
        x.mean(0);
        long digest = x.digest();
        int[] refused = {
            x.row(0, 41), x.row(0, -1), x.lay(0, 2, 1), x.tear(1), x.copy(0, 0, 0, 1, 2), x.mean(1), x.text(0, 61), x.text(3, -1),
            x.put(3, 5, 1), x.fault(0), x.stuff(0, 0), x.about(2, 0), x.push(2, 0), x.seal(1, 1, 2, 100, 1), x.take(2), x.depth(0, 201),
            x.stretch(1, 5), x.stretch(0, 5), x.told(2, 0), x.mark(1, 2), x.let(0, -1), x.press(0), x.through(0), x.age(10), x.renew(2),
            x.blown(0), x.ends(0, 0, 0), x.sure(21, 0), x.follows(1, 1, 1), x.strip(0, 100), x.parting(1), x.batch(1, 2, 1, 0), x.led(),
            x.choose(3, 0, 9), x.sniff(0, 0), x.count(6), x.findings(6),
        };
        for (int i = 0; i < refused.length; i++) due(39, "refused " + i + " is below 0", refused[i] < 0 ? 1 : 0, 1);
        due(45, "digest() behind refusals", x.digest(), digest);
        due(39, "asked() behind refusals", x.asked(), 5);
        due(40, "upper() behind refusals", x.upper(), 10);
        due(41, "lower() behind refusals", x.lower(), 3);
    }
}
