import java.math.BigInteger;
import java.util.ArrayList;
import java.util.List;
import java.util.function.ToIntFunction;

/**
 * Long runs of drawn calls, each answered by the class and by a model of the document that is written
 * another way: KINDS by inheritance, every SITTER asked in every MINUTE, TEXTS as trees, LIKELY by all
 * rows of winds, GAP by all ways to seat. A call that throws is a wrong answer, too.
 */
public final class SmokeGoesToModel {
    private static final int RUNS = 400, CALLS = 512;

    public static void main(String[] args) {
        int runs = args.length > 0 ? Integer.parseInt(args[0]) : RUNS;
        long calls = 0;
        for (int run = 0; run < runs; run++) {
            Draw draw = new Draw(run);
            SmokeGoesTo x = new SmokeGoesTo();
            Model model = new Model();
            StringBuilder log = new StringBuilder();
            List<int[]> plan = new ArrayList<>();
            Calls.planFirst(draw, plan);
            for (int c = 0; c < CALLS; c++) {
                if (plan.isEmpty()) Calls.plan(draw, plan);
                int[] call = plan.remove(0);
                log.append(Calls.NAMES[call[0]]);
                for (int i = 1; i < call.length; i++) log.append(i == 1 ? "(" : ", ").append(call[i]);
                log.append("\n");
                long got;
                try {
                    got = Calls.ofClass(x, call);
                } catch (RuntimeException | StackOverflowError thrown) {
                    System.out.println("run " + run + ", call " + c + " threw " + thrown + "\n" + log);
                    System.exit(1);
                    return;
                }
                long want = Calls.ofModel(model, call);
                calls++;
                if (got != want) {
                    System.out.println(log + "run " + run + ", call " + c + ": answered " + got + ", due is " + want);
                    System.exit(1);
                }
            }
        }
        System.out.println(calls + " calls are answered as by the model");
    }

    /** A row of drawn numbers that is the same each time. */
    static final class Draw {
        private long state;
        Draw(long seed) {
            state = seed * 0x9E3779B97F4A7C15L + 1;
        }
        int below(int n) {
            state = state * 6364136223846793005L + 1442695040888963407L;
            return (int) ((state >>> 33) % n);
        }
        boolean oneOf(int n) {
            return below(n) == 0;
        }
        /** Mostly from low to high, at times beside it, at times far off. */
        int about(int low, int high) {
            int way = below(40);
            if (way == 0) return low - 1;
            if (way == 1) return high + 1;
            if (way == 2) return new int[] {Integer.MIN_VALUE, Integer.MAX_VALUE, -1000, 1000}[below(4)];
            return low + below(high - low + 1);
        }
    }

    static final class Calls {
        static final String[] NAMES = {"set", "sitter", "told", "feed", "text", "force", "night", "sit", "likely",
            "mean", "seat", "gap", "stay", "eddies", "best", "eyes", "film", "drawn", "chance", "image", "back",
            "count", "sheet", "cell", "copy", "sitters", "taken"};

        /** The next few calls. */
        static void plan(Draw d, List<int[]> plan) {
            int n = d.below(NAMES.length + 16);
            if (n >= NAMES.length) n = new int[] {0, 0, 1, 1, 6, 6, 6, 7, 23, 15, 12, 13, 14, 27, 27, 27}[n - NAMES.length];
            if ((n == 3 || n == 4 || n == 20 || n == 19) && !d.oneOf(5)) n = 6;
            switch (n) {
                case 0: plan.add(planSet(d)); break;
                case 1: plan.add(new int[] {1, d.about(0, 5), d.about(0, 9), d.about(0, 7)}); break;
                case 2: plan.add(new int[] {2, d.about(0, 4), d.about(0, 9)}); break;
                case 3: planText(d, plan); break;
                case 4: plan.add(new int[] {4}); break;
                case 5: plan.add(new int[] {5, d.about(0, 5)}); break;
                case 6: plan.add(new int[] {6, d.about(0, 3), nightWhat(d)}); break;
                case 7: plan.add(new int[] {7, d.about(0, 3)}); break;
                case 8: plan.add(new int[] {8, d.about(0, 8), d.about(0, 7), d.about(0, 1)}); break;
                case 9: plan.add(new int[] {9, d.about(1, 8), d.about(0, 7), d.about(0, 1)}); break;
                case 10: plan.add(new int[] {10, d.about(0, 4), d.about(1, 8)}); break;
                case 11: plan.add(new int[] {11, d.about(1, 8), d.about(0, 4)}); break;
                case 12: plan.add(new int[] {12, d.about(0, 3)}); break;
                case 13: plan.add(new int[] {13, d.about(0, 3)}); break;
                case 14: plan.add(new int[] {14, d.about(0, 3), d.about(0, 4), d.about(0, 1)}); break;
                case 15: planEyes(d, plan); break;
                case 16: plan.add(new int[] {16, d.about(0, 3), d.about(0, 3)}); break;
                case 17: plan.add(new int[] {17, d.about(0, 1000)}); break;
                case 18: plan.add(new int[] {18, d.about(0, 1000), d.about(1, 20), d.about(0, 1)}); break;
                case 19: plan.add(new int[] {19}); break;
                case 20: plan.add(new int[] {20}); break;
                case 21: plan.add(new int[] {21, d.about(0, 8)}); break;
                case 22: plan.add(new int[] {22, d.about(0, 3), d.about(-1, 2), d.oneOf(3) ? d.about(0, 40) : d.about(0, 6)}); break;
                case 23: planCells(d, plan); break;
                case 24: plan.add(new int[] {24, d.about(0, 3), d.about(0, 5), d.about(0, 3), d.about(0, 5), d.about(0, 3)}); break;
                case 25: plan.add(new int[] {25, d.about(0, 3), d.about(0, 2), d.about(0, 6), d.about(0, 5)}); break;
                case 26: plan.add(new int[] {26, d.about(0, 4), d.about(0, 5)}); break;
                default: planWinds(d, plan); break;
            }
        }

        /** An evening to begin with: some SITTERS, at times an EDDY, winds, a TEXT. */
        static void planFirst(Draw d, List<int[]> plan) {
            if (d.oneOf(10)) return;
            int n = d.below(7);
            for (int s = 0; s < n; s++) plan.add(new int[] {1, d.below(6), d.below(d.oneOf(2) ? 3 : 10), d.below(8)});
            plan.add(new int[] {0, 4, 0, d.below(2)});
            planWinds(d, plan);
            planText(d, plan);
        }

        private static void planWinds(Draw d, List<int[]> plan) {
            int sheet = d.below(4);
            int n = d.below(d.oneOf(8) ? 41 : 12);
            plan.add(new int[] {22, sheet, d.below(3), n});
            int from = d.below(5), to = d.below(5);
            for (int i = 0; i < n; i++) {
                int w = d.below(5);
                plan.add(new int[] {23, sheet, i, w < from - 2 ? -1 : w > to + 1 ? 1 : d.oneOf(3) ? d.below(3) - 1 : 0});
            }
        }

        private static int[] planSet(Draw d) {
            int what = d.about(0, 6);
            int high = new int[] {7, 70, 70, 255, 1, 9, 7}[what < 0 || what > 6 ? 0 : what];
            int v = what == 3 ? (1 << d.below(8)) * d.below(2) | (1 << d.below(8)) * d.below(2) : d.about(0, high);
            return new int[] {0, what, d.about(0, 4), d.oneOf(30) ? d.about(0, 255) : v};
        }

        private static int nightWhat(Draw d) {
            return d.oneOf(3) ? d.about(0, 3) : d.about(1, 5) * 10 + d.about(0, 4);
        }

        private static void planCells(Draw d, List<int[]> plan) {
            int sheet = d.about(0, 3);
            int n = 1 + d.below(6);
            for (int i = 0; i < n; i++) {
                int v = d.oneOf(4) ? d.about(-40000, 40000) : d.about(-1, 3);
                plan.add(new int[] {23, sheet, d.oneOf(6) ? d.about(0, 40) : i, v});
            }
        }

        private static void planEyes(Draw d, List<int[]> plan) {
            int sheet = d.about(0, 3);
            if (d.oneOf(2)) plan.add(new int[] {16, sheet, d.about(0, 3)});
            int n = d.about(0, 5);
            for (int what = -2; what < 3; what++) plan.add(new int[] {15, sheet, n, what});
            plan.add(new int[] {15, sheet, d.about(0, 5), d.about(-2, 4)});
        }

        private static void planText(Draw d, List<int[]> plan) {
            StringBuilder text = new StringBuilder();
            for (String key : new String[] {"bears", "moves", "heat"}) {
                text.append(key).append(" ");
                expression(d, text, 0, 4 + d.below(8));
                text.append(d.oneOf(2) ? ";" : " ;\n");
            }
            int changes = d.oneOf(4) ? 1 + d.below(2) : 0;
            for (int i = 0; i < changes && text.length() > 0; i++) spoil(d, text);
            int size = Math.min(text.length(), 170);
            for (int i = 0; i < size; i++) plan.add(new int[] {3, text.charAt(i)});
            plan.add(new int[] {4});
            plan.add(new int[] {5, d.about(0, 5)});
        }

        private static void spoil(Draw d, StringBuilder text) {
            String bits = "();+-*<=0123456789 \n\t/Azbearsnot";
            int at = d.below(text.length());
            char letter = d.oneOf(20) ? (char) d.below(256) : bits.charAt(d.below(bits.length()));
            int way = d.below(4);
            if (way == 0) text.setCharAt(at, letter);
            else if (way == 1) text.insert(at, letter);
            else if (way == 2) text.deleteCharAt(at);
            else text.setLength(at);
        }

        /** What stands on a level: 0 or, 1 and, 2 not < =, 3 + -, 4 *, 5 a ONE; at times of a level that can't stand there. */
        private static void expression(Draw d, StringBuilder text, int level, int budget) {
            int here = d.oneOf(40) ? d.below(6) : level;
            boolean more = budget > 0 && !d.oneOf(3);
            if (here == 5) {
                one(d, text, budget);
            } else if (here == 2 && more && d.oneOf(3)) {
                text.append("not ");
                expression(d, text, 2, budget - 1);
            } else {
                expression(d, text, here + 1, budget - 1);
                if (!more || !d.oneOf(3)) return;
                String[] signs = {" or ", " and ", d.oneOf(2) ? "<" : " = ", d.oneOf(2) ? "+" : "-", "*"};
                text.append(signs[here]);
                expression(d, text, here + 1, budget - 2);
            }
        }

        private static void one(Draw d, StringBuilder text, int budget) {
            String[] names = {"place", "smoke", "minute", "long", "number", "sitter"};
            int way = d.below(budget > -8 ? 8 : 5);
            if (way < 3) {
                text.append(names[d.below(6)]);
            } else if (way < 5) {
                text.append(d.oneOf(4) ? d.below(10000) : d.below(12));
            } else if (way == 5) {
                text.append("-");
                expression(d, text, 5, budget - 1);
            } else {
                text.append("(");
                expression(d, text, 0, budget);
                text.append(")");
            }
        }

        static long ofClass(SmokeGoesTo x, int[] c) {
            switch (c[0]) {
                case 0: return x.set(c[1], c[2], c[3]);
                case 1: return x.sitter(c[1], c[2], c[3]);
                case 2: return x.told(c[1], c[2]);
                case 3: return x.feed(c[1]);
                case 4: return x.text();
                case 5: return x.force(c[1]);
                case 6: return x.night(c[1], c[2]);
                case 7: return x.sit(c[1]);
                case 8: return x.likely(c[1], c[2], c[3]);
                case 9: return x.mean(c[1], c[2], c[3]);
                case 10: return x.seat(c[1], c[2]);
                case 11: return x.gap(c[1], c[2]);
                case 12: return x.stay(c[1]);
                case 13: return x.eddies(c[1]);
                case 14: return x.best(c[1], c[2], c[3]);
                case 15: return x.eyes(c[1], c[2], c[3]);
                case 16: return x.film(c[1], c[2]);
                case 17: return x.drawn(c[1]);
                case 18: return x.chance(c[1], c[2], c[3]);
                case 19: return x.image();
                case 20: return x.back();
                case 21: return x.count(c[1]);
                case 22: return x.sheet(c[1], c[2], c[3]);
                case 23: return x.cell(c[1], c[2], c[3]);
                case 24: return x.copy(c[1], c[2], c[3], c[4], c[5]);
                case 25: return x.sitters(c[1], c[2], c[3], c[4]);
                default: return x.taken(c[1], c[2]);
            }
        }

        static long ofModel(Model x, int[] c) {
            switch (c[0]) {
                case 0: return x.set(c[1], c[2], c[3]);
                case 1: return x.sitter(c[1], c[2], c[3]);
                case 2: return x.told(c[1], c[2]);
                case 3: return x.feed(c[1]);
                case 4: return x.text();
                case 5: return x.force(c[1]);
                case 6: return x.night(c[1], c[2]);
                case 7: return x.sit(c[1]);
                case 8: return x.likely(c[1], c[2], c[3]);
                case 9: return x.mean(c[1], c[2], c[3]);
                case 10: return x.seat(c[1], c[2]);
                case 11: return x.gap(c[1], c[2]);
                case 12: return x.stay(c[1]);
                case 13: return x.eddies(c[1]);
                case 14: return x.best(c[1], c[2], c[3]);
                case 15: return x.eyes(c[1], c[2], c[3]);
                case 16: return x.film(c[1], c[2]);
                case 17: return x.drawn(c[1]);
                case 18: return x.chance(c[1], c[2], c[3]);
                case 19: return x.image();
                case 20: return x.back();
                case 21: return x.count(c[1]);
                case 22: return x.sheet(c[1], c[2], c[3]);
                case 23: return x.cell(c[1], c[2], c[3]);
                case 24: return x.copy(c[1], c[2], c[3], c[4], c[5]);
                case 25: return x.sitters(c[1], c[2], c[3], c[4]);
                default: return x.taken(c[1], c[2]);
            }
        }
    }

    // ---- the KINDS

    static class Sitter {
        boolean getsUp(int number, int l) { return false; }
        int goes(int p, int w) { return (p + 4) % 8; }
        int bears(int v, int l) { return v; }
    }

    static class Mover extends Sitter {
        @Override boolean getsUp(int number, int l) { return true; }
        @Override int bears(int v, int l) { return 2 * super.bears(v, l); }
    }

    static class Counter extends Sitter {
        @Override boolean getsUp(int number, int l) { return l >= number + 1; }
        @Override int bears(int v, int l) { return super.bears(v, l) + l; }
    }

    static final class Neighbour extends Mover {
        @Override int goes(int p, int w) { return w == 0 ? (p + 1) % 8 : (p + w + 8) % 8; }
        @Override int bears(int v, int l) { return super.bears(v, l) - 1; }
    }

    static final class Brave extends Counter {
        @Override boolean getsUp(int number, int l) { return l % 2 == 0 && super.getsUp(number, l); }
        @Override int goes(int p, int w) { return (p + 2) % 8; }
        @Override int bears(int v, int l) { return super.bears(v, l) / 2; }
    }

    static final class Sleeper extends Sitter {
        @Override int bears(int v, int l) { return 0; }
    }

    private static final Sitter[] KINDS =
        {new Sitter(), new Mover(), new Counter(), new Neighbour(), new Brave(), new Sleeper()};

    // ---- TEXTS

    static final class Fault extends RuntimeException {
        private static final long serialVersionUID = 1L;
        final int place;
        Fault(int place) {
            super(null, null, false, false);
            this.place = place;
        }
    }

    /** All tokens first (what begins none as "?"), then trees of what is told of them. */
    static final class Parser {
        private final List<String> tokens = new ArrayList<>();
        private final List<Integer> places = new ArrayList<>();
        private int at = 0;
        private int open = 0;

        Parser(String tape) {
            java.util.regex.Matcher m = java.util.regex.Pattern.compile("[ \n]+|[a-z]+|[0-9]+|(?s:.)").matcher(tape);
            while (m.find()) {
                char first = m.group().charAt(0);
                if (first == ' ' || first == '\n') continue;
                tokens.add(m.group());
                places.add(m.start());
            }
            tokens.add("");
            places.add(tape.length());
        }

        List<ToIntFunction<int[]>> all() {
            List<ToIntFunction<int[]>> three = new ArrayList<>();
            for (String key : new String[] {"bears", "moves", "heat"}) {
                take(key);
                three.add(or());
                take(";");
            }
            if (!is("")) throw fault();
            return three;
        }

        private boolean is(String token) { return tokens.get(at).equals(token); }
        private Fault fault() { return new Fault(places.get(at)); }

        private void take(String token) {
            if (!is(token)) throw fault();
            at++;
        }

        private void open() {
            if (open == 5) throw fault();
            open++;
            at++;
        }

        private ToIntFunction<int[]> or() {
            ToIntFunction<int[]> a = and();
            while (is("or")) {
                at++;
                ToIntFunction<int[]> b = and(), old = a;
                a = n -> (old.applyAsInt(n) != 0) | (b.applyAsInt(n) != 0) ? 1 : 0;
            }
            return a;
        }

        private ToIntFunction<int[]> and() {
            ToIntFunction<int[]> a = not();
            while (is("and")) {
                at++;
                ToIntFunction<int[]> b = not(), old = a;
                a = n -> (old.applyAsInt(n) != 0) & (b.applyAsInt(n) != 0) ? 1 : 0;
            }
            return a;
        }

        private ToIntFunction<int[]> not() {
            if (is("not")) {
                open();
                ToIntFunction<int[]> a = not();
                open--;
                return n -> a.applyAsInt(n) == 0 ? 1 : 0;
            }
            ToIntFunction<int[]> a = sum();
            if (is("<")) {
                at++;
                ToIntFunction<int[]> b = sum();
                return n -> a.applyAsInt(n) < b.applyAsInt(n) ? 1 : 0;
            }
            if (is("=")) {
                at++;
                ToIntFunction<int[]> b = sum();
                return n -> a.applyAsInt(n) == b.applyAsInt(n) ? 1 : 0;
            }
            return a;
        }

        private ToIntFunction<int[]> sum() {
            ToIntFunction<int[]> a = term();
            while (is("+") || is("-")) {
                boolean plus = is("+");
                at++;
                ToIntFunction<int[]> b = term(), old = a;
                a = plus ? n -> old.applyAsInt(n) + b.applyAsInt(n) : n -> old.applyAsInt(n) - b.applyAsInt(n);
            }
            return a;
        }

        private ToIntFunction<int[]> term() {
            ToIntFunction<int[]> a = one();
            while (is("*")) {
                at++;
                ToIntFunction<int[]> b = one(), old = a;
                a = n -> old.applyAsInt(n) * b.applyAsInt(n);
            }
            return a;
        }

        private ToIntFunction<int[]> one() {
            String token = tokens.get(at);
            if (token.matches("[0-9]{1,4}")) {
                at++;
                int number = Integer.parseInt(token);
                return n -> number;
            }
            int name = List.of("place", "smoke", "minute", "long", "number", "sitter").indexOf(token);
            if (name >= 0) {
                at++;
                return n -> n[name];
            }
            if (is("-")) {
                open();
                ToIntFunction<int[]> a = one();
                open--;
                return n -> -a.applyAsInt(n);
            }
            if (!is("(")) throw fault();
            open();
            ToIntFunction<int[]> a = or();
            take(")");
            open--;
            return a;
        }
    }

    // ---- the document

    static final class Someone {
        int kind, number, place;
        Someone(int kind, int number, int place) {
            this.kind = kind;
            this.number = number;
            this.place = place;
        }
    }

    static final class State {
        int smoke, left = 30, right = 30, tents, eddy, rule;
        List<Someone> all = new ArrayList<>();

        State like() {
            State s = new State();
            s.smoke = smoke;
            s.left = left;
            s.right = right;
            s.tents = tents;
            s.eddy = eddy;
            s.rule = rule;
            for (Someone one : all) s.all.add(new Someone(one.kind, one.number, one.place));
            return s;
        }

        boolean taken(int place, int but) {
            for (int i = 0; i < all.size(); i++) if (i != but && all.get(i).place == place) return true;
            return false;
        }
    }

    static final class Past {
        State end;
        int[] cost = new int[5], in = new int[5], longest = new int[5], ups = new int[5];
        int needless;
        int all() { return cost[0] + cost[1] + cost[2] + cost[3] + cost[4]; }
        int upsOfAll() { return ups[0] + ups[1] + ups[2] + ups[3] + ups[4]; }
    }

    static final class Model {
        private static final long NO = -4611686018427387904L;
        private State now = new State();
        private State image = null;
        private final List<List<ToIntFunction<int[]>>> texts = new ArrayList<>();
        private final StringBuilder tape = new StringBuilder();
        /** A SHEET is a byte[], a short[], an int[], or null. */
        private final Object[] sheets = new Object[4];

        Model() {
            texts.add(new Parser("bears 5 + long ; moves 3 ; heat 0 ;").all());
        }

        private boolean in(int v, int low, int high) { return v >= low && v <= high; }
        private boolean someone(int s) { return in(s, 0, now.all.size() - 1); }

        long set(int what, int of, int v) {
            int was;
            switch (what) {
                case 0:
                    if (!in(v, 0, 7)) return -2;
                    was = now.smoke;
                    now.smoke = v;
                    return was;
                case 1:
                    if (!in(v, 0, 100) || v + now.right > 100) return -2;
                    was = now.left;
                    now.left = v;
                    return was;
                case 2:
                    if (!in(v, 0, 100) || v + now.left > 100) return -2;
                    was = now.right;
                    now.right = v;
                    return was;
                case 3:
                    if (!in(v, 0, 255)) return -2;
                    was = now.tents;
                    now.tents = v;
                    return was;
                case 4:
                    if (!in(v, 0, 1)) return -2;
                    was = now.eddy;
                    now.eddy = v;
                    return was;
                case 5:
                    if (!someone(of) || !in(v, 0, 9)) return -2;
                    was = now.all.get(of).number;
                    now.all.get(of).number = v;
                    return was;
                case 6:
                    if (!someone(of) || !in(v, 0, 7)) return -2;
                    if (now.taken(v, of)) return -3;
                    was = now.all.get(of).place;
                    now.all.get(of).place = v;
                    return was;
                default:
                    return -2;
            }
        }

        long sitter(int kind, int number, int place) {
            if (!in(kind, 0, 5) || !in(number, 0, 9) || !in(place, 0, 7)) return -2;
            if (now.taken(place, -1)) return -3;
            if (now.all.size() == 5) return -4;
            now.all.add(new Someone(kind, number, place));
            return now.all.size() - 1;
        }

        long told(int s, int what) {
            if (!someone(s) || !in(what, 0, 9)) return -2;
            Someone one = now.all.get(s);
            if (what == 0) return one.kind;
            if (what == 1) return one.number;
            if (what == 2) return one.place;
            if (what == 3) return KINDS[one.kind].goes(one.place, 0);
            return KINDS[one.kind].getsUp(one.number, what - 3) ? 1 : 0;
        }

        long feed(int letter) {
            if (!in(letter, 0, 255)) return -2;
            if (tape.length() == 160) return -4;
            tape.append((char) letter);
            return tape.length();
        }

        long text() {
            if (texts.size() == 6) return -4;
            try {
                texts.add(new Parser(tape.toString()).all());
                return texts.size() - 1;
            } catch (Fault fault) {
                return -100 - fault.place;
            } finally {
                tape.setLength(0);
            }
        }

        long force(int text) {
            if (!in(text, 0, texts.size() - 1)) return -2;
            int was = now.rule;
            now.rule = text;
            return was;
        }

        // -- nights

        private int cost(State s, int part, int who, int minute, int l) {
            Someone one = s.all.get(who);
            int v = texts.get(s.rule).get(part).applyAsInt(
                new int[] {one.place, s.smoke, minute, l, one.number, who});
            return v < 0 ? 0 : v > 99 ? 99 : v;
        }

        private Past past(State from, int[] winds) {
            State s = from.like();
            Past past = new Past();
            past.end = s;
            int[] l = new int[5];
            List<Integer> upAhead = new ArrayList<>();
            List<Integer> leftAhead = new ArrayList<>();
            for (int m = 0; m < winds.length; m++) {
                int w = winds[m] < 0 ? -1 : winds[m] > 0 ? 1 : 0;
                s.smoke = (s.smoke + w + 8) % 8;
                if (s.eddy == 1 && !upAhead.isEmpty()) {
                    int to = s.all.get(upAhead.get(0)).place;
                    int right = 0, left = 0;
                    while ((s.smoke + right) % 8 != to) right++;
                    while ((s.smoke - left + 8) % 8 != to) left++;
                    if (right != 0) s.smoke = right <= left ? (s.smoke + 1) % 8 : (s.smoke + 7) % 8;
                }
                for (int place : leftAhead) if (s.smoke != place) past.needless++;
                upAhead.clear();
                leftAhead.clear();
                boolean[] in = new boolean[5];
                for (int i = 0; i < s.all.size(); i++) {
                    Someone one = s.all.get(i);
                    in[i] = s.smoke == one.place && (s.tents & 1 << one.place) == 0;
                    if (in[i]) {
                        l[i]++;
                        past.in[i]++;
                        past.longest[i] = Math.max(past.longest[i], l[i]);
                        past.cost[i] += Math.max(0, KINDS[one.kind].bears(cost(s, 0, i, m, l[i]), l[i]));
                    } else {
                        l[i] = 0;
                        past.cost[i] += cost(s, 2, i, m, 0);
                    }
                }
                for (int i = 0; i < s.all.size(); i++) {
                    Someone one = s.all.get(i);
                    if (!in[i] || !KINDS[one.kind].getsUp(one.number, l[i])) continue;
                    past.cost[i] += cost(s, 1, i, m, l[i]);
                    past.ups[i]++;
                    upAhead.add(i);
                    leftAhead.add(one.place);
                    int to = KINDS[one.kind].goes(one.place, w);
                    while (s.taken(to, i)) to = (to + 1) % 8;
                    one.place = to;
                    l[i] = 0;
                }
            }
            return past;
        }

        private int[] ints(int sheet) {
            Object row = sheets[sheet];
            int[] all = new int[java.lang.reflect.Array.getLength(row)];
            for (int i = 0; i < all.length; i++) all[i] = java.lang.reflect.Array.getInt(row, i);
            return all;
        }

        long night(int sheet, int what) {
            if (!in(sheet, 0, 3) || sheets[sheet] == null) return -100;
            Past past = past(now, ints(sheet));
            if (what == 0) return past.all();
            if (what == 1) return past.end.smoke;
            if (what == 2) return past.upsOfAll();
            if (what == 3) return past.needless;
            if (!in(what, 10, 59) || !someone(what % 10)) return -100;
            int s = what % 10;
            int[][] rows = {past.cost, past.in, past.longest, past.ups};
            return what < 50 ? rows[what / 10 - 1][s] : past.end.all.get(s).place;
        }

        long sit(int sheet) {
            if (!in(sheet, 0, 3)) return -2;
            if (sheets[sheet] == null) return -11;
            Past past = past(now, ints(sheet));
            now = past.end;
            return past.all();
        }

        // -- how likely

        /** Of 100 to the n ways, how many lead to each PLACE, by all rows of n winds. */
        private void ways(int n, int place, long weight, long[] to) {
            if (weight == 0) return;
            if (n == 0) {
                to[place] += weight;
                return;
            }
            ways(n - 1, (place + 7) % 8, weight * now.left, to);
            ways(n - 1, (place + 1) % 8, weight * now.right, to);
            ways(n - 1, place, weight * (100 - now.left - now.right), to);
        }

        private BigInteger[] together(int from, int n) {
            BigInteger[] all = new BigInteger[8];
            java.util.Arrays.fill(all, BigInteger.ZERO);
            for (int k = from; k <= n; k++) {
                long[] to = new long[8];
                ways(k, now.smoke, 1, to);
                for (int p = 0; p < 8; p++) {
                    all[p] = all[p].add(BigInteger.valueOf(to[p]).multiply(BigInteger.valueOf(100).pow(n - k)));
                }
            }
            return all;
        }

        private long lowest(BigInteger above, BigInteger below, int part) {
            BigInteger divisor = above.gcd(below);
            return (part == 0 ? above : below).divide(divisor).longValueExact();
        }

        long likely(int n, int place, int part) {
            if (!in(n, 0, 8) || !in(place, 0, 7) || !in(part, 0, 1)) return NO;
            return lowest(together(n, n)[place], BigInteger.valueOf(100).pow(n), part);
        }

        long mean(int n, int place, int part) {
            if (!in(n, 1, 8) || !in(place, 0, 7) || !in(part, 0, 1)) return NO;
            return lowest(together(1, n)[place], BigInteger.valueOf(100).pow(n), part);
        }

        long seat(int s, int n) {
            if (!someone(s) || !in(n, 1, 8)) return -2;
            BigInteger[] means = together(1, n);
            int found = -1;
            for (int p = 7; p >= 0; p--) {
                if (now.taken(p, s) || (now.tents & 1 << p) != 0) continue;
                if (found < 0 || means[p].compareTo(means[found]) <= 0) found = p;
            }
            return found;
        }

        private BigInteger least;
        private int[] seating;

        private void seatAll(BigInteger[] means, int[] places, int s, BigInteger sum) {
            if (s == places.length) {
                if (least == null || sum.compareTo(least) < 0) {
                    least = sum;
                    seating = places.clone();
                }
                return;
            }
            for (int p = 0; p < 8; p++) {
                boolean free = true;
                for (int i = 0; i < s; i++) free &= places[i] != p;
                if (!free) continue;
                places[s] = p;
                seatAll(means, places, s + 1, (now.tents & 1 << p) != 0 ? sum : sum.add(means[p]));
            }
        }

        long gap(int n, int s) {
            if (!in(n, 1, 8) || !someone(s)) return -2;
            least = null;
            seatAll(together(1, n), new int[now.all.size()], 0, BigInteger.ZERO);
            return seating[s];
        }

        // -- for told winds

        long stay(int sheet) {
            if (!in(sheet, 0, 3)) return -2;
            if (sheets[sheet] == null) return -11;
            int bits = 0;
            for (int s = 0; s < now.all.size(); s++) {
                State other = now.like();
                other.all.get(s).kind = 0;
                if (past(other, ints(sheet)).cost[s] < past(now, ints(sheet)).cost[s]) bits += 1 << s;
            }
            return bits;
        }

        long eddies(int sheet) {
            if (!in(sheet, 0, 3) || sheets[sheet] == null) return -100000;
            State with = now.like(), without = now.like();
            with.eddy = 1;
            without.eddy = 0;
            return past(with, ints(sheet)).all() - past(without, ints(sheet)).all();
        }

        long best(int sheet, int s, int what) {
            if (!in(sheet, 0, 3) || !someone(s) || !in(what, 0, 1)) return -2;
            if (sheets[sheet] == null) return -11;
            int[] costs = new int[8];
            int found = -1;
            for (int p = 0; p < 8; p++) {
                if (now.taken(p, s)) continue;
                State other = now.like();
                other.all.get(s).place = p;
                costs[p] = past(other, ints(sheet)).cost[s];
                if (found < 0 || costs[p] < costs[found]) found = p;
            }
            return what == 0 ? found : costs[found];
        }

        // -- red eyes

        private void rows(State s, int[] red, int[] winds, int m, List<Integer> found) {
            if (m == winds.length) {
                Past past = past(s, winds);
                int digits = 0;
                for (int w : winds) digits = digits * 10 + w + 2;
                for (int i = 0; i < red.length; i++) if (past.in[i] != red[i]) return;
                found.add(digits);
                return;
            }
            for (int w = -1; w <= 1; w++) {
                winds[m] = w;
                rows(s, red, winds, m + 1, found);
            }
        }

        long eyes(int sheet, int n, int what) {
            if (!in(sheet, 0, 3) || !in(n, 0, 5) || !in(what, -2, now.all.size() - 1)) return -100;
            if (sheets[sheet] == null || ints(sheet).length != now.all.size()) return -100;
            if (what < 0) {
                List<Integer> found = new ArrayList<>();
                rows(now, ints(sheet), new int[n], 0, found);
                if (what == -1) return found.size();
                return found.isEmpty() ? -1 : found.get(0);
            }
            int bits = 0;
            for (int kind = 0; kind < 6; kind++) {
                State other = now.like();
                other.all.get(what).kind = kind;
                List<Integer> found = new ArrayList<>();
                rows(other, ints(sheet), new int[n], 0, found);
                if (!found.isEmpty()) bits |= 1 << kind;
            }
            return bits;
        }

        long film(int sheet, int winds) {
            if (!in(sheet, 0, 3) || !in(winds, 0, 3)) return -2;
            if (sheets[winds] == null) return -11;
            Past past = past(now, ints(winds));
            byte[] row = new byte[now.all.size()];
            for (int i = 0; i < row.length; i++) row[i] = (byte) past.in[i];
            sheets[sheet] = row;
            return row.length;
        }

        private Past drawnPast(int seed) {
            int[] winds = new int[10];
            int z = seed;
            for (int m = 0; m < 10; m++) {
                z = z * 1103515245 + 12345;
                int q = (int) ((z & 0xFFFFFFFFL) / 512 % 100);
                winds[m] = q < now.left ? -1 : q < now.left + now.right ? 1 : 0;
            }
            return past(now, winds);
        }

        long drawn(int seed) {
            return drawnPast(seed).all();
        }

        long chance(int seed, int n, int part) {
            if (!in(n, 1, 20) || !in(part, 0, 1)) return NO;
            int quiet = 0;
            for (int i = 0; i < n; i++) if (drawnPast(seed + i).upsOfAll() == 0) quiet++;
            return lowest(BigInteger.valueOf(quiet), BigInteger.valueOf(n), part);
        }

        long image() {
            image = now.like();
            return now.all.size();
        }

        long back() {
            if (image == null) return -3;
            now = image.like();
            return now.all.size();
        }

        long count(int what) {
            int[] all = {now.all.size(), now.smoke, now.left, now.right, now.tents, now.eddy, texts.size(),
                tape.length(), now.rule};
            return in(what, 0, 8) ? all[what] : -2;
        }

        // -- the host

        private int sort(int sheet) {
            return sheets[sheet] instanceof byte[] ? 0 : sheets[sheet] instanceof short[] ? 1 : 2;
        }

        long sheet(int sheet, int sort, int n) {
            if (!in(sheet, 0, 3) || !in(sort, -1, 2)) return -2;
            if (sort >= 0 && n > 40) return -2;
            if (sort >= 0 && n < 0) return -14;
            sheets[sheet] = sort < 0 ? null : sort == 0 ? new byte[n] : sort == 1 ? (Object) new short[n] : new int[n];
            return 1;
        }

        long cell(int sheet, int i, int v) {
            if (!in(sheet, 0, 3)) return -2;
            try {
                if (sheets[sheet] instanceof byte[]) ((byte[]) sheets[sheet])[i] = (byte) v;
                else if (sheets[sheet] instanceof short[]) ((short[]) sheets[sheet])[i] = (short) v;
                else ((int[]) sheets[sheet])[i] = v;
            } catch (NullPointerException missing) {
                return -11;
            } catch (ArrayIndexOutOfBoundsException outside) {
                return -12;
            }
            return 1;
        }

        @SuppressWarnings("SuspiciousSystemArraycopy")
        long copy(int sheet, int i, int other, int j, int n) {
            if (!in(sheet, 0, 3) || !in(other, 0, 3)) return -2;
            try {
                System.arraycopy(sheets[sheet], i, sheets[other], j, n);
            } catch (NullPointerException missing) {
                return -11;
            } catch (ArrayStoreException unlike) {
                return -13;
            } catch (IndexOutOfBoundsException outside) {
                return -12;
            }
            return n;
        }

        long sitters(int sheet, int sort, int from, int n) {
            if (!in(sheet, 0, 3) || !in(sort, 0, 2) || !in(n, 0, 5)) return -2;
            if (sheets[sheet] == null) return -11;
            if (sort(sheet) != sort) return -13;
            int[] row = ints(sheet);
            int came = 0;
            for (int i = 0; i < n; i++) {
                try {
                    int at = Math.addExact(from, 3 * i);
                    if (sitter(row[at], row[at + 1], row[at + 2]) >= 0) came++;
                } catch (ArithmeticException | ArrayIndexOutOfBoundsException outside) {
                    return -12;
                }
            }
            return came;
        }

        long taken(int s, int k) {
            if (!in(k, 0, 5)) return -2;
            if (!someone(s)) return -11;
            return KINDS[k].getClass().isInstance(KINDS[now.all.get(s).kind]) ? now.all.get(s).number : -13;
        }
    }
}
