import java.lang.reflect.Method;
import java.math.BigInteger;

/** What the tests share: calls told as texts, objects made ready, answers looked at. */
abstract class Bench {
    static final int BAD = -1, FINDING = -3, STATE = -4, SPENT = -6, NONE = -9;
    static final int NOTHING = 1, BEYOND = 2, UNLIKE = 3, NOUGHT = 4, SIZE = 5;
    static final int LOW = Integer.MIN_VALUE, HIGH = Integer.MAX_VALUE;

    private static String test = "";
    private static int wrong = 0;
    private static int looked = 0;

    /** What is looked at from here on is told under this name. */
    static void begin(String name) {
        test = name;
    }

    static void end() {
        System.out.println(wrong == 0 ? "all " + looked + " answers are as due" : wrong + " answers are not as due");
        if (wrong != 0) System.exit(1);
    }

    static void due(String what, long got, long want) {
        looked++;
        if (got == want) return;
        wrong++;
        System.out.println(test + ": " + what + " answered " + got + ", due is " + want);
    }

    // ---- calls told as texts: "row 0 40"; LOW and HIGH stand for the ends of an int

    static long call(RubberSeals x, String told) {
        String[] words = told.split(" ");
        Object[] numbers = new Object[words.length - 1];
        for (int i = 0; i < numbers.length; i++) numbers[i] = number(words[i + 1]);
        try {
            for (Method m : RubberSeals.class.getMethods()) {
                boolean meant = m.getName().equals(words[0]) && m.getParameterCount() == numbers.length;
                if (meant) return ((Number) m.invoke(x, numbers)).longValue();
            }
        } catch (ReflectiveOperationException e) {
            throw new IllegalStateException(test + ": " + told, e);
        }
        throw new IllegalStateException(test + ": no such call: " + told);
    }

    private static int number(String word) {
        if (word.equals("LOW")) return LOW;
        return word.equals("HIGH") ? HIGH : Integer.parseInt(word);
    }

    /** Calls that make an object ready; their answers are not looked at. */
    static void calls(RubberSeals x, String... told) {
        for (String one : told) call(x, one);
    }

    static void due(RubberSeals x, String told, long want) {
        due(told, call(x, told), want);
    }

    static void dueAsked(RubberSeals x, String told, long want, int wantAsked) {
        due(x, told, want);
        due(told + ", asked()", x.asked(), wantAsked);
    }

    static void dueFraction(RubberSeals x, String told, long want, long up, long down) {
        due(x, told, want);
        due(told + ", upper()", x.upper(), up);
        due(told + ", lower()", x.lower(), down);
    }

    /** The same, told in terms that need not be the lowest. */
    static void dueRatio(RubberSeals x, String told, long want, long up, long down) {
        long by = BigInteger.valueOf(up).gcd(BigInteger.valueOf(down)).longValueExact();
        dueFraction(x, told, want, up / by, down / by);
    }

    static void dueBad(RubberSeals x, String... told) {
        for (String one : told) dueUnchanged(x, one, BAD, 0);
    }

    static void dueState(RubberSeals x, String... told) {
        for (String one : told) dueUnchanged(x, one, STATE, 0);
    }

    static void dueSpent(RubberSeals x, String... told) {
        for (String one : told) dueUnchanged(x, one, SPENT, 0);
    }

    static void dueNone(RubberSeals x, String... told) {
        for (String one : told) dueUnchanged(x, one, NONE, 0);
    }

    static void dueFinding(RubberSeals x, int finding, String... told) {
        for (String one : told) dueUnchanged(x, one, FINDING, finding);
    }

    /** "What is refused changes nothing but finding(), findings()": looked at behind every refusal. */
    private static void dueUnchanged(RubberSeals x, String told, int want, int finding) {
        long digest = x.digest(), upper = x.upper(), lower = x.lower();
        int asked = x.asked(), latest = finding == 0 ? x.finding() : finding;
        int[] counts = new int[6];
        for (int f = 1; f <= 5; f++) counts[f] = x.findings(f) + (f == finding ? 1 : 0);
        due(x, told, want);
        due("digest() behind " + told, x.digest(), digest);
        due("upper() behind " + told, x.upper(), upper);
        due("lower() behind " + told, x.lower(), lower);
        due("asked() behind " + told, x.asked(), asked);
        due("finding() behind " + told, x.finding(), latest);
        for (int f = 1; f <= 5; f++) due("findings(" + f + ") behind " + told, x.findings(f), counts[f]);
    }

    // ---- objects made ready

    static void write(RubberSeals x, int t, String items) {
        x.text(t, items.length());
        for (int i = 0; i < items.length(); i++) x.put(t, i, items.charAt(i));
    }

    /** A new object with these stuffs as 0, 1, .., and TEXT 3 as the last one's. */
    static RubberSeals with(String... stuffs) {
        RubberSeals x = new RubberSeals();
        for (int s = 0; s < stuffs.length; s++) {
            write(x, 3, stuffs[s]);
            if (x.stuff(s, 3) < 1) throw new IllegalStateException(stuffs[s]);
        }
        return x;
    }

    static void layAll(RubberSeals x, int r, int... values) {
        x.row(r, values.length);
        for (int i = 0; i < values.length; i++) x.lay(r, i, values[i]);
    }

    static int toldAt(RubberSeals x, int p, int what) {
        x.told(p, what);
        return x.asked();
    }

    static int layOld(RubberSeals x, int r, int i) {
        x.lay(r, i, 0);
        return x.asked();
    }

    static void dueRow(RubberSeals x, int r, int... values) {
        for (int i = 0; i < values.length; i++) due("place " + i + " of ROW " + r, layOld(x, r, i), values[i]);
        due("the place behind", x.lay(r, values.length, 0), FINDING);
    }

    static void dueFree(RubberSeals x, int... frees) {
        for (int p = 0; p < frees.length; p++) due("FREE HEIGHT at PLACE " + p, toldAt(x, p, 1), frees[p]);
    }

    static long mixed(int... values) {
        long h = 17;
        for (int v : values) h = 31 * h + v;
        return h;
    }
}
