import java.math.BigInteger;
import java.util.ArrayList;
import java.util.Arrays;
import java.util.List;
import java.util.Random;
import java.util.TreeSet;

/**
 * Plays long runs of calls, drawn from fixed seeds, on RubberSeals and on a slow model of the
 * document that counts in exact fractions, and prints the first call of a run at which they part.
 */
public final class RubberSealsAgainstModel {
    private static final int RUNS = 3000;
    private static final int CALLS = 170;
    private static final String[] STUFF_TEXTS = {
        "P2:10P6:50 T20G5C-30", "P3:9 P9:90W30", "P1:100", "P4:20P8:21P20:400C10T99", " P10:100 ",
        "P3:17P7:80P12:81P19:500 T7W90G99C0", "P1:3P18:200P19:999T50G1C5", "P13:7 P17:900 W99C-99",
        "P1:999C99", "P20:1T99W99G99C25", "P1:1P2:2P3:3P4:4", "P2:30", "P5:30P6:300", "P19:998P20:999C20",
    };
    private static final String[] FAULTY_TEXTS = {
        "", "   ", "T5", "P", "P5", "P5:", "P0:5", "P00:5", "P21:5", "P5:0", "P5:000", "P5.1", "P5:9P5:10", "P5:9P6:9",
        "P1:1P2:2P3:3P4:4P5:5", "P1:1 P2:2 P3:3 P4:4  P", "C--1P1:1", "T100P1:1", "T", "P1:1000", "P 1:1", "P1 :1",
        "P1: 1", "P1:1 C-", "P1:1C- 5", "P1:1 -", "P1:1t5", "P001:1", "P1:1G", "P1:1,P2:2", "P1:1 C+5", "P9:5P3:9", "P1:1 T 5",
    };

    private static int wrong = 0;
    private static int answered = 0;

    public static void main(String[] args) {
        for (int run = 0; run < RUNS && wrong < 20; run++) playRun(run);
        System.out.println(wrong == 0 ? "no run parts from the model, " + answered + " calls" : wrong + " runs part from the model");
        if (wrong != 0) System.exit(1);
    }

    private static void playRun(int run) {
        Random random = new Random(7919L * run + 3);
        RubberSeals real = new RubberSeals();
        Model model = new Model();
        List<String> calls = new ArrayList<>();
        for (String call : opening(random)) calls.add(call);
        for (int i = 0; i < CALLS; i++) calls.add(drawCall(random));
        for (int i = 0; i < calls.size(); i++) {
            String call = calls.get(i);
            long got = ask(real, null, call);
            long want = ask(null, model, call);
            answered++;
            String also = alike(real, model);
            if (got != want || !also.isEmpty()) {
                wrong++;
                System.out.println("run " + run + ", call " + i + ": " + call + " answered " + got + ", due is " + want + also);
                for (int j = Math.max(0, i - 400); j <= i && wrong == 1; j++) System.out.println("    " + calls.get(j));
                return;
            }
        }
    }

    private static String alike(RubberSeals real, Model model) {
        StringBuilder out = new StringBuilder();
        if (real.asked() != model.asked) out.append("; asked ").append(real.asked()).append(", due ").append(model.asked);
        if (real.upper() != model.told.up.longValueExact()) out.append("; upper ").append(real.upper()).append(", due ").append(model.told.up);
        if (real.lower() != model.told.down.longValueExact()) out.append("; lower ").append(real.lower()).append(", due ").append(model.told.down);
        if (real.finding() != model.finding) out.append("; finding ").append(real.finding()).append(", due ").append(model.finding);
        for (int f = 0; f <= 6; f++) {
            int want = f < 1 || f > 5 ? -1 : model.findings[f];
            if (real.findings(f) != want) out.append("; findings ").append(f);
        }
        if (real.digest() != model.digest()) out.append("; digest");
        return out.toString();
    }

    private static List<String> opening(Random random) {
        List<String> calls = new ArrayList<>();
        int stuffs = random.nextInt(7);
        for (int s = 0; s < stuffs; s++) {
            addText(calls, 0, STUFF_TEXTS[random.nextInt(STUFF_TEXTS.length)]);
            calls.add("stuff " + s + " 0");
        }
        int seals = random.nextInt(5);
        boolean close = random.nextBoolean();
        for (int p = 0; p < seals; p++) {
            int height = close ? 95 + random.nextInt(12) : 50 + random.nextInt(351);
            int kind = random.nextInt(8) == 0 ? 0 : 1 + random.nextInt(4);
            calls.add("seal " + p + " " + kind + " " + random.nextInt(Math.max(1, stuffs)) + " " + height + " " + (1 + random.nextInt(9)));
        }
        calls.add("let 0 " + (random.nextInt(3) == 0 ? random.nextInt(100000) : random.nextInt(2000)));
        calls.add("let 2 " + (random.nextInt(3) == 0 ? random.nextInt(10000) : random.nextInt(90)));
        return calls;
    }

    private static void addText(List<String> calls, int t, String text) {
        calls.add("text " + t + " " + text.length());
        for (int i = 0; i < text.length(); i++) {
            if (text.charAt(i) != ' ') calls.add("put " + t + " " + i + " " + (int) text.charAt(i));
        }
    }

    /** Mostly a number that is one, sometimes one just beyond, seldom one far off. */
    private static int draw(Random random, int least, int most) {
        int chance = random.nextInt(60);
        if (chance == 0) return least - 1;
        if (chance == 1) return most + 1;
        if (chance == 2) return random.nextBoolean() ? Integer.MIN_VALUE : Integer.MAX_VALUE;
        if (chance < 6) return least;
        if (chance < 9) return most;
        return least + random.nextInt(most - least + 1);
    }

    private static String drawCall(Random random) {
        int p = draw(random, 0, 3);
        int r = draw(random, 0, 5);
        int s = draw(random, 0, 5);
        switch (random.nextInt(44)) {
            case 0: return "row " + r + " " + (random.nextBoolean() ? 4 : draw(random, 0, 40));
            case 1: return "lay " + r + " " + draw(random, 0, 7) + " " + random.nextInt();
            case 2: return "tear " + r;
            case 3: return "copy " + r + " " + draw(random, 0, 6) + " " + draw(random, 0, 5) + " " + draw(random, 0, 6) + " " + draw(random, 0, 8);
            case 4: return "mean " + r;
            case 5: return "text " + draw(random, 0, 3) + " " + draw(random, 0, 60);
            case 6: return "put " + draw(random, 0, 3) + " " + draw(random, 0, 12) + " " + random.nextInt(600);
            case 7: return "fault " + draw(random, 0, 3);
            case 8: return "stuff " + s + " " + draw(random, 0, 3);
            case 9: return "about " + s + " " + draw(random, 0, 4);
            case 10: return "push " + s + " " + draw(random, 0, 99);
            case 11: return "seal " + p + " " + draw(random, 0, 4) + " " + s + " " + draw(random, 50, 400) + " " + draw(random, 1, 9);
            case 12: return random.nextInt(4) == 0 ? "take " + p : "rest";
            case 13: return "depth " + p + " " + (random.nextBoolean() ? random.nextInt(12) : draw(random, 0, 200));
            case 14: return "stretch " + p + " " + draw(random, 0, 40);
            case 15: return "told " + p + " " + draw(random, 0, 4);
            case 16: return "mark " + p + " " + draw(random, 0, 4);
            case 17: return "let 0 " + (random.nextBoolean() ? draw(random, 0, 99999) : random.nextInt(3000));
            case 18: return "let " + draw(random, 1, 1) + " " + (random.nextBoolean() ? draw(random, -99, 99) : random.nextInt(30));
            case 19: return "let 2 " + (random.nextBoolean() ? draw(random, 0, 9999) : random.nextInt(80));
            case 20: return "let 3 " + draw(random, 0, 99);
            case 21: return "rest";
            case 22: return "press " + p;
            case 23: return "opens";
            case 24: return "weakest";
            case 25: return "leak";
            case 26: return "through " + p;
            case 27: return "age " + draw(random, 1, 9);
            case 28: return "swell";
            case 29: return "renew " + p;
            case 30: return "blown " + p;
            case 31: return "ends " + p + " " + draw(random, 0, 20) + " " + draw(random, 0, 999);
            case 32: return "sure " + draw(random, 0, 20) + " " + draw(random, 0, 999);
            case 33: return "follows " + p + " " + draw(random, 1, 9999) + " " + draw(random, 1, 20);
            case 34: return "strip " + r + " " + draw(random, 0, 99);
            case 35: return "parting " + draw(random, 0, 63);
            case 36: return "batch " + draw(random, 1, 40) + " " + draw(random, 0, 20) + " " + draw(random, 1, 10) + " " + draw(random, 0, 5);
            case 37: return "led";
            case 38: return "choose " + draw(random, 0, 63) + " " + r + " " + draw(random, 0, 1296);
            case 39: return "sniff " + r + " " + draw(random, 0, 99);
            case 40: return "count " + draw(random, 0, 5);
            case 41: return "say " + draw(random, 0, 3) + " " + random.nextInt(1 << 20);
            case 42: return "prices " + r + " " + random.nextInt(1 << 20);
            default: return "pairs " + r + " " + random.nextInt(1 << 20);
        }
    }

    /** One call, on the program or on the model; the last three names are small runs of calls. */
    private static long ask(RubberSeals x, Model m, String call) {
        String[] words = call.split(" ");
        int[] v = new int[6];
        for (int i = 1; i < words.length; i++) v[i] = Integer.parseInt(words[i]);
        int a = v[1], b = v[2], c = v[3], d = v[4], e = v[5];
        switch (words[0]) {
            case "row": return x != null ? x.row(a, b) : m.row(a, b);
            case "lay": return x != null ? x.lay(a, b, c) : m.lay(a, b, c);
            case "tear": return x != null ? x.tear(a) : m.tear(a);
            case "copy": return x != null ? x.copy(a, b, c, d, e) : m.copy(a, b, c, d, e);
            case "mean": return x != null ? x.mean(a) : m.mean(a);
            case "text": return x != null ? x.text(a, b) : m.text(a, b);
            case "put": return x != null ? x.put(a, b, c) : m.put(a, b, c);
            case "fault": return x != null ? x.fault(a) : m.fault(a);
            case "stuff": return x != null ? x.stuff(a, b) : m.stuff(a, b);
            case "about": return x != null ? x.about(a, b) : m.about(a, b);
            case "push": return x != null ? x.push(a, b) : m.push(a, b);
            case "seal": return x != null ? x.seal(a, b, c, d, e) : m.seal(a, b, c, d, e);
            case "take": return x != null ? x.take(a) : m.take(a);
            case "depth": return x != null ? x.depth(a, b) : m.depth(a, b);
            case "stretch": return x != null ? x.stretch(a, b) : m.stretch(a, b);
            case "told": return x != null ? x.told(a, b) : m.told(a, b);
            case "mark": return x != null ? x.mark(a, b) : m.mark(a, b);
            case "let": return x != null ? x.let(a, b) : m.let(a, b);
            case "rest": return x != null ? x.rest() : m.rest();
            case "press": return x != null ? x.press(a) : m.press(a);
            case "opens": return x != null ? x.opens() : m.opens();
            case "weakest": return x != null ? x.weakest() : m.weakest();
            case "leak": return x != null ? x.leak() : m.leak();
            case "through": return x != null ? x.through(a) : m.through(a);
            case "age": return x != null ? x.age(a) : m.age(a);
            case "swell": return x != null ? x.swell() : m.swell();
            case "renew": return x != null ? x.renew(a) : m.renew(a);
            case "blown": return x != null ? x.blown(a) : m.blown(a);
            case "ends": return x != null ? x.ends(a, b, c) : m.ends(a, b, c);
            case "sure": return x != null ? x.sure(a, b) : m.sure(a, b);
            case "follows": return x != null ? x.follows(a, b, c) : m.follows(a, b, c);
            case "strip": return x != null ? x.strip(a, b) : m.strip(a, b);
            case "parting": return x != null ? x.parting(a) : m.parting(a);
            case "batch": return x != null ? x.batch(a, b, c, d) : m.batch(a, b, c, d);
            case "led": return x != null ? x.led() : m.led();
            case "choose": return x != null ? x.choose(a, b, c) : m.choose(a, b, c);
            case "sniff": return x != null ? x.sniff(a, b) : m.sniff(a, b);
            case "count": return x != null ? x.count(a) : m.count(a);
            default: return askRun(x, m, words[0], a, b);
        }
    }

    private static long askRun(RubberSeals x, Model m, String name, int where, int seed) {
        Random random = new Random(seed);
        List<String> calls = new ArrayList<>();
        if (name.equals("say")) {
            String[] of = random.nextInt(3) == 0 ? FAULTY_TEXTS : STUFF_TEXTS;
            addText(calls, where, of[random.nextInt(of.length)]);
            calls.add("fault " + where);
            calls.add("stuff " + random.nextInt(6) + " " + where);
        } else if (name.equals("prices")) {
            calls.add("row " + where + " 6");
            for (int i = 0; i < 6; i++) calls.add("lay " + where + " " + i + " " + draw(random, 0, random.nextBoolean() ? 999 : 9));
            calls.add("choose " + (random.nextBoolean() ? 3 : random.nextInt(64)) + " " + where + " 1296");
            calls.add("sniff " + where + " 99");
        } else {
            int size = random.nextInt(3) == 0 ? 4 : 2 * random.nextInt(5);
            calls.add("row " + where + " " + size);
            int q = 1 + random.nextInt(300);
            for (int i = 0; i < size; i++) {
                int pair = i % 2 == 0 ? draw(random, 0, 20) : draw(random, 0, 400);
                int sniff = Math.max(0, q / (Math.abs(i - seed % 4) + 1) + random.nextInt(5) - 2);
                calls.add("lay " + where + " " + i + " " + (size == 4 && seed % 3 == 0 ? sniff : pair));
            }
            calls.add("strip " + where + " " + random.nextInt(100));
            calls.add("sniff " + where + " " + random.nextInt(30));
        }
        long all = 0;
        for (String call : calls) all = all * 31 + ask(x, m, call);
        return all;
    }

    private record Frac(BigInteger up, BigInteger down) {
        static Frac of(long up, long down) {
            return reduced(BigInteger.valueOf(up), BigInteger.valueOf(down));
        }

        static Frac whole(long n) {
            return of(n, 1);
        }

        static Frac reduced(BigInteger up, BigInteger down) {
            BigInteger by = up.gcd(down);
            if (down.signum() < 0) by = by.negate();
            return new Frac(up.divide(by), down.divide(by));
        }

        Frac plus(Frac o) {
            return reduced(up.multiply(o.down).add(o.up.multiply(down)), down.multiply(o.down));
        }

        Frac minus(Frac o) {
            return plus(new Frac(o.up.negate(), o.down));
        }

        Frac times(Frac o) {
            return reduced(up.multiply(o.up), down.multiply(o.down));
        }

        Frac times(long n) {
            return times(whole(n));
        }

        Frac by(Frac o) {
            return reduced(up.multiply(o.down), down.multiply(o.up));
        }

        int compare(Frac o) {
            return up.multiply(o.down).compareTo(o.up.multiply(down));
        }

        int cut() {
            return up.divide(down).intValueExact();
        }
    }

    private static final class Stuff {
        List<int[]> points = new ArrayList<>();
        int[] tells = {0, 0, -99, 0, 0};

        Frac push(Frac u) {
            int[] from = {0, 0};
            int[] to = points.get(0);
            for (int i = 1; i < points.size(); i++) {
                if (u.compare(Frac.whole(points.get(i - 1)[0])) > 0) {
                    from = points.get(i - 1);
                    to = points.get(i);
                }
            }
            Frac slope = Frac.of(to[1] - from[1], to[0] - from[0]);
            return Frac.whole(from[1]).plus(u.minus(Frac.whole(from[0])).times(slope));
        }
    }

    private static final class Seal {
        int kind, stuff, free, height, area, stretched, followed, blown;

        boolean is(int k) {
            return k == 0 || k == kind || (k == 1 && kind > 1) || (k == 2 && kind > 2);
        }
    }

    private static final class Model {
        static final int BAD = -1, FINDING = -3, STATE = -4, SPENT = -6, NONE = -9;
        int[][] rows = new int[6][];
        byte[][] texts = new byte[4][];
        Stuff[] stuffs = new Stuff[6];
        Seal[] seals = new Seal[4];
        int[] depths = new int[4];
        int[] lets = {0, 20, 0, 0};
        int asked = 0, finding = 0;
        int[] findings = new int[6];
        Frac told = Frac.whole(0);

        int find(int f) {
            finding = f;
            findings[f]++;
            return FINDING;
        }

        static boolean out(int v, int least, int most) {
            return v < least || v > most;
        }

        int row(int r, int n) {
            if (out(r, 0, 5) || n > 40) return BAD;
            if (n < 0) return find(5);
            rows[r] = new int[n];
            return n;
        }

        int lay(int r, int i, int v) {
            if (out(r, 0, 5)) return BAD;
            if (rows[r] == null) return find(1);
            if (out(i, 0, rows[r].length - 1)) return find(2);
            asked = rows[r][i];
            rows[r][i] = v;
            return 1;
        }

        int tear(int r) {
            if (out(r, 0, 5)) return BAD;
            if (rows[r] == null) return find(1);
            rows[r] = null;
            return 1;
        }

        int copy(int r, int i, int to, int j, int n) {
            if (out(r, 0, 5) || out(to, 0, 5)) return BAD;
            if (n < 0) return find(5);
            if (rows[r] == null || rows[to] == null) return find(1);
            if (i < 0 || j < 0 || (long) i + n > rows[r].length || (long) j + n > rows[to].length) return find(2);
            int[] ahead = Arrays.copyOfRange(rows[r], i, i + n);
            for (int k = 0; k < n; k++) rows[to][j + k] = ahead[k];
            return 1;
        }

        int mean(int r) {
            if (out(r, 0, 5)) return BAD;
            if (rows[r] == null) return find(1);
            if (rows[r].length == 0) return find(4);
            BigInteger sum = BigInteger.ZERO;
            for (int v : rows[r]) sum = sum.add(BigInteger.valueOf(v));
            asked = sum.divide(BigInteger.valueOf(rows[r].length)).intValueExact();
            return 1;
        }

        int text(int t, int n) {
            if (out(t, 0, 3) || n > 60) return BAD;
            if (n < 0) return find(5);
            texts[t] = new byte[n];
            Arrays.fill(texts[t], (byte) 32);
            return n;
        }

        int put(int t, int i, int v) {
            if (out(t, 0, 3)) return BAD;
            if (texts[t] == null) return find(1);
            if (out(i, 0, texts[t].length - 1)) return find(2);
            int was = texts[t][i];
            texts[t][i] = (byte) v;
            return was + 1000;
        }

        /** By states between signs: what is read next is told by the last letters read. */
        int parse(byte[] t, Stuff into) {
            String mode = "item";
            int n = 0, figures = 0, sign = 1, x = 0, lastX = 0, lastY = 0;
            for (int i = 0; i <= t.length; i++) {
                int c = i < t.length ? t[i] : -1000;
                boolean figure = c >= '0' && c <= '9';
                if (!mode.equals("item") && figure && figures < (mode.equals("Y") ? 3 : 2)) {
                    n = n * 10 + c - '0';
                    figures++;
                    continue;
                }
                if (mode.equals("C") && figures == 0 && c == '-' && sign == 1) {
                    sign = -1;
                    continue;
                }
                if (!mode.equals("item") && figures == 0) return i;
                if (mode.equals("X")) {
                    if (n == 0 || n > 20 || n <= lastX || c != ':') return i;
                    x = n;
                    mode = "Y";
                    n = 0;
                    figures = 0;
                    continue;
                }
                if (mode.equals("Y")) {
                    if (n == 0 || n <= lastY) return i;
                    lastX = x;
                    lastY = n;
                    into.points.add(new int[] {x, n});
                }
                if (mode.equals("T")) into.tells[1] = n;
                if (mode.equals("C")) into.tells[2] = sign * n;
                if (mode.equals("W")) into.tells[3] = n;
                if (mode.equals("G")) into.tells[4] = n;
                mode = "item";
                n = 0;
                figures = 0;
                sign = 1;
                if (i == t.length || c == 32) continue;
                if (c == 'P' && into.points.size() == 4) return i;
                if (c == 'P') mode = "X";
                else if (c == 'T' || c == 'W' || c == 'G' || c == 'C') mode = String.valueOf((char) c);
                else return i;
            }
            into.tells[0] = into.points.size();
            return into.points.isEmpty() ? t.length : NONE;
        }

        int fault(int t) {
            if (out(t, 0, 3)) return BAD;
            if (texts[t] == null) return find(1);
            return parse(texts[t], new Stuff());
        }

        int stuff(int s, int t) {
            if (out(s, 0, 5) || out(t, 0, 3)) return BAD;
            if (texts[t] == null) return find(1);
            Stuff fresh = new Stuff();
            if (parse(texts[t], fresh) != NONE) return STATE;
            stuffs[s] = fresh;
            return fresh.points.size();
        }

        int about(int s, int what) {
            if (out(s, 0, 5) || out(what, 0, 4)) return BAD;
            if (stuffs[s] == null) return find(1);
            asked = stuffs[s].tells[what];
            return 1;
        }

        int push(int s, int u) {
            if (out(s, 0, 5) || out(u, 0, 99)) return BAD;
            if (stuffs[s] == null) return find(1);
            told = stuffs[s].push(Frac.whole(u));
            return 1;
        }

        int seal(int p, int kind, int stuff, int height, int area) {
            if (out(p, 0, 3) || out(kind, 0, 4) || out(height, 50, 400) || out(area, 1, 9)) return BAD;
            if (kind > 0) {
                if (out(stuff, 0, 5)) return BAD;
                if (stuffs[stuff] == null) return find(1);
            }
            Seal s = new Seal();
            s.kind = kind;
            s.stuff = stuff;
            s.height = height;
            s.free = height;
            s.area = area;
            seals[p] = s;
            return 1;
        }

        int take(int p) {
            if (out(p, 0, 3)) return BAD;
            if (seals[p] == null) return find(1);
            seals[p] = null;
            return 1;
        }

        int depth(int p, int d) {
            if (out(p, 0, 3) || out(d, 0, 200)) return BAD;
            int was = depths[p];
            depths[p] = d;
            return was;
        }

        int lacks(int p, int kind) {
            if (seals[p] == null) return find(1);
            return seals[p].is(kind) ? 0 : find(3);
        }

        static int stretchedBy(Seal s) {
            return s.height * (200 - s.stretched) / 200;
        }

        int stretch(int p, int v) {
            if (out(p, 0, 3) || out(v, 0, 40)) return BAD;
            if (lacks(p, 2) != 0) return FINDING;
            seals[p].stretched = v;
            seals[p].free = stretchedBy(seals[p]);
            return seals[p].free;
        }

        int told(int p, int what) {
            if (out(p, 0, 3) || out(what, 0, 4)) return BAD;
            Seal s = seals[p];
            if (s == null) return find(1);
            asked = new int[] {s.kind, s.free, s.height, s.area, depths[p]}[what];
            return 1;
        }

        int mark(int p, int kind) {
            if (out(p, 0, 3) || out(kind, 1, 4)) return BAD;
            if (lacks(p, kind) != 0) return FINDING;
            Seal s = seals[p];
            return new int[] {0, s.stuff, s.stretched, s.followed, s.blown}[kind];
        }

        int let(int what, int v) {
            int[] least = {0, -99, 0, 0}, most = {99999, 99, 9999, 99};
            if (out(what, 0, 3) || out(v, least[what], most[what])) return BAD;
            int was = lets[what];
            lets[what] = v;
            return was;
        }

        /** A lid on seals with free heights and stuffs of their own. */
        final class Scene {
            int[] free = new int[4];
            Stuff[] of = new Stuff[4];
            int lid = lets[0], degrees = lets[1], pressure = lets[2];
            Frac h;

            Scene() {
                for (int p = 0; p < 4; p++) {
                    if (seals[p] == null) continue;
                    free[p] = seals[p].free;
                    if (rubber(p)) of[p] = stuffs[seals[p].stuff];
                }
            }

            Frac squeezed(int p, Frac at) {
                Frac u = Frac.whole(free[p] - depths[p]).minus(at);
                return u.up.signum() > 0 ? u : Frac.whole(0);
            }

            Frac press(int p, Frac at) {
                return of[p].push(squeezed(p, at)).times(degrees < of[p].tells[2] ? 3 : 1);
            }

            Frac all(Frac at) {
                Frac sum = Frac.whole(0);
                for (int p = 0; p < 4; p++) if (rubber(p)) sum = sum.plus(press(p, at).times(seals[p].area));
                return sum;
            }

            /** Walks down from bend to bend, the last stretch going on below for as far as is due. */
            Frac byPushes() {
                TreeSet<Integer> bends = new TreeSet<>();
                for (int p = 0; p < 4; p++) {
                    if (!rubber(p)) continue;
                    bends.add(free[p] - depths[p]);
                    for (int[] point : of[p].points) bends.add(free[p] - depths[p] - point[0]);
                }
                Frac due = Frac.whole(lid);
                int last = bends.first();
                bends.add(last - 1000);
                int above = bends.last();
                for (int below : bends.descendingSet().tailSet(above, false)) {
                    Frac a = all(Frac.whole(above)), b = all(Frac.whole(below));
                    if (b.compare(due) >= 0 || below == bends.first()) {
                        Frac slope = b.minus(a).by(Frac.whole(above - below));
                        return Frac.whole(above).minus(due.minus(a).by(slope));
                    }
                    above = below;
                }
                throw new IllegalStateException();
            }

            Scene rests() {
                Frac parts = null, highest = Frac.whole(0);
                boolean any = false;
                for (int p = 0; p < 4; p++) {
                    if (seals[p] == null) continue;
                    Frac top = Frac.whole(free[p] - depths[p]);
                    if (top.compare(highest) > 0) highest = top;
                    if (rubber(p)) any = true;
                    else if (parts == null || top.compare(parts) > 0) parts = top;
                }
                if (lid == 0) h = highest;
                else {
                    h = any ? byPushes() : parts;
                    if (h == null) h = Frac.whole(0);
                    if (parts != null && h.compare(parts) < 0) h = parts;
                    if (h.up.signum() < 0) h = Frac.whole(0);
                }
                return this;
            }

            boolean open(int p) {
                return rubber(p) && press(p, h).compare(Frac.whole(pressure)) < 0;
            }

            int openBits() {
                int bits = 0;
                for (int p = 0; p < 4; p++) if (open(p)) bits += 1 << p;
                return bits;
            }
        }

        boolean rubber(int p) {
            return seals[p] != null && seals[p].kind > 0;
        }

        int rest() {
            if (count(0) == 0) return STATE;
            told = new Scene().rests().h;
            for (int p = 0; p < 4; p++) {
                if (seals[p] != null && !rubber(p) && told.compare(Frac.whole(seals[p].free - depths[p])) == 0) return 1;
            }
            return told.up.signum() == 0 ? 2 : 0;
        }

        int press(int p) {
            if (out(p, 0, 3)) return BAD;
            if (lacks(p, 1) != 0) return FINDING;
            Scene scene = new Scene().rests();
            told = scene.press(p, scene.h);
            return scene.open(p) ? 1 : 0;
        }

        int opens() {
            return new Scene().rests().openBits();
        }

        int weakest() {
            if (count(1) == 0) return NONE;
            Scene scene = new Scene().rests();
            int best = -1;
            for (int p = 3; p >= 0; p--) {
                if (rubber(p) && (best < 0 || scene.press(p, scene.h).compare(scene.press(best, scene.h)) <= 0)) best = p;
            }
            asked = scene.press(best, scene.h).cut();
            return best;
        }

        int leak() {
            Scene scene = new Scene().rests();
            int sum = 0;
            for (int p = 0; p < 4; p++) {
                if (scene.open(p)) sum += Frac.whole(lets[2]).minus(scene.press(p, scene.h)).times(seals[p].area).cut();
            }
            return sum;
        }

        int through(int p) {
            if (out(p, 0, 3)) return BAD;
            if (lacks(p, 1) != 0) return FINDING;
            Scene scene = new Scene().rests();
            Frac height = scene.squeezed(p, scene.h).up.signum() > 0 ? scene.h.plus(Frac.whole(depths[p])) : Frac.whole(seals[p].free);
            if (height.up.signum() == 0) return find(4);
            told = Frac.whole((long) stuffs[seals[p].stuff].tells[4] * lets[2] * seals[p].area).by(height);
            return 1;
        }

        int age(int t) {
            if (out(t, 1, 9)) return BAD;
            Scene scene = new Scene().rests();
            int less = 0;
            for (int p = 0; p < 4; p++) {
                if (!rubber(p)) continue;
                int percent = Math.min(100, stuffs[seals[p].stuff].tells[1] * t);
                int loss = scene.squeezed(p, scene.h).times(Frac.of(percent, 100)).cut();
                seals[p].free -= loss;
                if (loss > 0) less++;
            }
            return less;
        }

        int swell() {
            int sum = 0;
            for (int p = 0; p < 4; p++) {
                if (!rubber(p)) continue;
                int was = seals[p].free;
                seals[p].free = Math.min(800, was + Frac.of((long) was * stuffs[seals[p].stuff].tells[3], 1000).cut());
                sum += seals[p].free - was;
            }
            return sum;
        }

        int renew(int p) {
            if (out(p, 0, 3)) return BAD;
            if (seals[p] == null) return find(1);
            asked = seals[p].height - seals[p].free;
            seals[p].free = seals[p].height;
            seals[p].stretched = 0;
            return 1;
        }

        int blown(int p) {
            if (out(p, 0, 3)) return BAD;
            if (lacks(p, 1) != 0) return FINDING;
            seals[p].blown++;
            if (seals[p].kind == 4) return 0;
            return Frac.whole(lets[2] * lets[3]).compare(stuffs[seals[p].stuff].push(Frac.whole(10)).times(100)) > 0 ? 1 : 0;
        }

        List<Scene> allEnds(int a, int f) {
            List<Scene> all = new ArrayList<>();
            for (int w = 0; w < 32; w++) {
                Scene scene = new Scene();
                for (int p = 0; p < 4; p++) if (rubber(p)) scene.free[p] += (w >> p & 1) == 1 ? a : -a;
                scene.lid = w < 16 ? Math.max(0, scene.lid - f) : scene.lid + f;
                all.add(scene.rests());
            }
            return all;
        }

        int ends(int p, int a, int f) {
            if (out(p, 0, 3) || out(a, 0, 20) || out(f, 0, 999)) return BAD;
            if (lacks(p, 1) != 0) return FINDING;
            Frac least = null, most = null;
            for (Scene scene : allEnds(a, f)) {
                Frac press = scene.press(p, scene.h);
                if (least == null || press.compare(least) < 0) least = press;
                if (most == null || press.compare(most) > 0) most = press;
            }
            asked = most.cut();
            return least.cut();
        }

        int sure(int a, int f) {
            if (out(a, 0, 20) || out(f, 0, 999)) return BAD;
            int shut = 0;
            for (Scene scene : allEnds(a, f)) if (scene.openBits() == 0) shut++;
            return shut == 32 ? 2 : shut > 0 ? 1 : 0;
        }

        int follows(int p, int turns, int wobble) {
            if (out(p, 0, 3) || out(turns, 1, 9999) || out(wobble, 1, 20)) return BAD;
            if (lacks(p, 3) != 0) return FINDING;
            seals[p].followed++;
            int bound = stuffs[seals[p].stuff].push(Frac.whole(wobble)).times(10).cut();
            return 2 * turns * wobble <= bound ? 2 : turns * wobble > bound ? 0 : 1;
        }

        int strip(int r, int k) {
            if (out(r, 0, 5) || out(k, 0, 99)) return BAD;
            if (rows[r] == null) return find(1);
            if (rows[r].length == 0 || rows[r].length % 2 == 1) return find(5);
            for (int i = 0; i < rows[r].length; i++) if (out(rows[r][i], 0, i % 2 == 0 ? 20 : 9999)) return find(3);
            int kept = 0;
            for (int s = 0; s < 6; s++) {
                boolean fits = stuffs[s] != null;
                for (int i = 0; i < rows[r].length && fits; i += 2) {
                    Frac off = stuffs[s].push(Frac.whole(rows[r][i])).minus(Frac.whole(rows[r][i + 1]));
                    fits = off.compare(Frac.whole(k)) <= 0 && off.compare(Frac.whole(-k)) >= 0;
                }
                if (fits) kept += 1 << s;
            }
            return kept;
        }

        List<Integer> members(int set) {
            List<Integer> all = new ArrayList<>();
            for (int s = 0; s < 6; s++) if ((set >> s & 1) == 1) all.add(s);
            return all;
        }

        int parting(int set) {
            if (out(set, 0, 63) || members(set).size() < 2) return BAD;
            for (int s : members(set)) if (stuffs[s] == null) return find(1);
            Frac far = Frac.whole(-1);
            int best = 0;
            for (int u = 1; u <= 20; u++) {
                for (int s : members(set)) {
                    for (int o : members(set)) {
                        Frac apart = stuffs[s].push(Frac.whole(u)).minus(stuffs[o].push(Frac.whole(u)));
                        if (apart.compare(far) > 0) {
                            far = apart;
                            best = u;
                        }
                    }
                }
            }
            asked = far.cut();
            return best;
        }

        /** By looking at one after another: the odds of each number of bad ones so far. */
        int batch(int n, int b, int m, int a) {
            if (out(n, 1, 40) || out(b, 0, n) || out(m, 1, 10) || m > n || out(a, 0, m)) return BAD;
            Frac[] odds = new Frac[m + 2];
            Arrays.fill(odds, Frac.whole(0));
            odds[0] = Frac.whole(1);
            for (int looked = 0; looked < m; looked++) {
                Frac[] next = new Frac[m + 2];
                Arrays.fill(next, Frac.whole(0));
                for (int bad = 0; bad <= looked; bad++) {
                    Frac toBad = Frac.of(Math.max(0, b - bad), n - looked);
                    next[bad + 1] = next[bad + 1].plus(odds[bad].times(toBad));
                    next[bad] = next[bad].plus(odds[bad].times(Frac.whole(1).minus(toBad)));
                }
                odds = next;
            }
            told = Frac.whole(0);
            for (int i = 0; i <= a; i++) told = told.plus(odds[i]);
            return 1;
        }

        int led() {
            if (opens() == 0) return STATE;
            int bits = 0;
            Scene set = new Scene(), cold = new Scene(), half = new Scene(), loose = new Scene();
            for (int p = 0; p < 4; p++) {
                if (!rubber(p)) continue;
                int due = stretchedBy(seals[p]);
                if (due > set.free[p]) set.free[p] = due;
                if (seals[p].kind >= 2) loose.free[p] += seals[p].height - due;
            }
            cold.degrees = 20;
            half.pressure = half.pressure / 2;
            if (set.rests().openBits() == 0) bits += 1;
            if (cold.rests().openBits() == 0) bits += 2;
            if (half.rests().openBits() == 0) bits += 4;
            if (loose.rests().openBits() == 0) bits += 8;
            return bits;
        }

        int best, bestTold;

        int choose(int set, int prices, int turns) {
            if (out(set, 1, 63) || out(prices, 0, 5) || out(turns, 0, 1296)) return BAD;
            for (int s : members(set)) if (stuffs[s] == null) return find(1);
            if (rows[prices] == null) return find(1);
            if (rows[prices].length != 6) return find(5);
            for (int v : rows[prices]) if (out(v, 0, 999)) return find(3);
            if (Math.pow(members(set).size(), count(1)) > turns) return SPENT;
            best = -1;
            tryFrom(0, new Scene(), 0, 0, members(set), rows[prices]);
            if (best < 0) return NONE;
            asked = bestTold;
            return best;
        }

        void tryFrom(int p, Scene scene, int sum, int tells, List<Integer> of, int[] prices) {
            if (p == 4) {
                if ((best < 0 || sum < best) && scene.rests().openBits() == 0) {
                    best = sum;
                    bestTold = tells;
                }
            } else if (!rubber(p)) {
                tryFrom(p + 1, scene, sum, tells, of, prices);
            } else {
                int[] tens = {1, 10, 100, 1000};
                for (int s : of) {
                    scene.of[p] = stuffs[s];
                    tryFrom(p + 1, scene, sum + prices[s] * seals[p].area, tells + (s + 1) * tens[p], of, prices);
                }
            }
        }

        int sniff(int r, int k) {
            if (out(r, 0, 5) || out(k, 0, 99)) return BAD;
            if (rows[r] == null) return find(1);
            if (rows[r].length != 4) return find(5);
            for (int v : rows[r]) if (out(v, 0, 9999)) return find(3);
            int bits = 0;
            for (int q = 1; q <= 999; q++) {
                for (int p = 0; p < 4; p++) {
                    boolean fits = true;
                    for (int j = 0; j < 4; j++) {
                        int sniffed = q / ((j > p ? j - p : p - j) + 1);
                        if (rows[r][j] < sniffed - k || rows[r][j] > sniffed + k) fits = false;
                    }
                    if (fits) bits |= 1 << p;
                }
            }
            return bits;
        }

        int count(int what) {
            if (out(what, 0, 5)) return BAD;
            int sum = 0;
            if (what < 3) for (Seal s : seals) sum += s != null && s.is(what) ? 1 : 0;
            if (what == 3) for (Stuff s : stuffs) sum += s != null ? 1 : 0;
            if (what == 4) for (int[] r : rows) sum += r != null ? 1 : 0;
            if (what == 5) for (byte[] t : texts) sum += t != null ? 1 : 0;
            return sum;
        }

        long digest() {
            List<Integer> all = new ArrayList<>();
            for (int what = 0; what < 6; what++) all.add(count(what));
            for (int v : lets) all.add(v);
            for (int p = 0; p < 4; p++) {
                all.add(depths[p]);
                Seal s = seals[p];
                if (s == null) all.add(-1);
                else all.addAll(List.of(s.kind, s.free, s.height, s.area, s.is(1) ? s.stuff : -1, s.is(2) ? s.stretched : -1));
            }
            for (Stuff s : stuffs) {
                if (s == null) all.add(-1);
                else {
                    for (int v : s.tells) all.add(v);
                    for (int[] point : s.points) all.addAll(List.of(point[0], point[1]));
                }
            }
            for (int[] r : rows) {
                all.add(r == null ? -1 : r.length);
                if (r != null) for (int v : r) all.add(v);
            }
            for (byte[] t : texts) {
                all.add(t == null ? -1 : t.length);
                if (t != null) for (int v : t) all.add(v);
            }
            long h = 17;
            for (int v : all) h = 31 * h + v;
            return h;
        }
    }
}
