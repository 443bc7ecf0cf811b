import java.nio.charset.StandardCharsets;

/** For each promise of the document: ordinary calls, the edges that it names, and wrong ones. */
public final class SmokeGoesToPromises {
    private static int wrong = 0;
    private static int promise = 0;

    private static void due(String call, long got, long want) {
        if (got == want) return;
        wrong++;
        System.out.println("promise " + promise + ": " + call + " answered " + got + ", due is " + want);
    }

    private static final int MISSING = -11, OUTSIDE = -12, UNLIKE = -13, NEGATIVE = -14;
    private static final int SITTER = 0, MOVER = 1, COUNTER = 2, NEIGHBOUR = 3, BRAVE = 4, SLEEPER = 5;

    public static void main(String[] args) {
        Runnable[] all = {
            SmokeGoesToPromises::newObject, SmokeGoesToPromises::set, SmokeGoesToPromises::sitter,
            SmokeGoesToPromises::told, SmokeGoesToPromises::feed, SmokeGoesToPromises::text,
            SmokeGoesToPromises::force, SmokeGoesToPromises::night, SmokeGoesToPromises::sit,
            SmokeGoesToPromises::likely, SmokeGoesToPromises::mean, SmokeGoesToPromises::seat,
            SmokeGoesToPromises::gap, SmokeGoesToPromises::stay, SmokeGoesToPromises::eddies,
            SmokeGoesToPromises::best, SmokeGoesToPromises::eyes, SmokeGoesToPromises::film,
            SmokeGoesToPromises::drawn, SmokeGoesToPromises::chance, SmokeGoesToPromises::image,
            SmokeGoesToPromises::back, SmokeGoesToPromises::count, SmokeGoesToPromises::sheet,
            SmokeGoesToPromises::cell, SmokeGoesToPromises::copy, SmokeGoesToPromises::sitters,
            SmokeGoesToPromises::taken,
        };
        for (Runnable each : all) {
            promise++;
            each.run();
        }
        System.out.println(wrong == 0 ? "all " + promise + " promises stand" : wrong + " answers are not as due");
        if (wrong != 0) System.exit(1);
    }

    // ---- helps

    /** A SHEET of bytes that holds these numbers. */
    private static void lay(SmokeGoesTo x, int sheet, int... items) {
        x.sheet(sheet, 0, items.length);
        for (int i = 0; i < items.length; i++) {
            x.cell(sheet, i, items[i]);
        }
    }

    private static int read(SmokeGoesTo x, String text) {
        for (byte letter : text.getBytes(StandardCharsets.ISO_8859_1)) {
            x.feed(letter & 255);
        }
        return x.text();
    }

    /** What a TEXT with this for bears lets a SITTER bear by this MINUTE's wind from PLACE 0. */
    private static int bears(String e, int place, int number) {
        SmokeGoesTo x = new SmokeGoesTo();
        x.sitter(SITTER, number, place);
        x.set(0, 0, place);
        lay(x, 0, 0);
        due("text " + e, read(x, "bears " + e + ";moves 0;heat 0;"), 1);
        x.force(1);
        return x.night(0, 0);
    }

    private static void faultAt(String text, int place) {
        due("FAULT of " + text, read(new SmokeGoesTo(), text), -100 - place);
    }

    // ---- the promises

    private static void newObject() {
        SmokeGoesTo x = new SmokeGoesTo();
        int[] counts = {0, 0, 30, 30, 0, 0, 1, 0, 0};
        for (int what = 0; what < counts.length; what++) {
            due("count(" + what + ")", x.count(what), counts[what]);
        }
        for (int s = 0; s < 4; s++) {
            due("cell of a missing SHEET", x.cell(s, 0, 1), MISSING);
        }
        due("told(0, 0)", x.told(0, 0), SmokeGoesTo.BAD);
        due("back()", x.back(), SmokeGoesTo.STATE);
        due("NONE", SmokeGoesTo.NONE, -1);
        due("BAD", SmokeGoesTo.BAD, -2);
        due("STATE", SmokeGoesTo.STATE, -3);
        due("FULL", SmokeGoesTo.FULL, -4);
        due("NO", SmokeGoesTo.NO, -4611686018427387904L);
    }

    private static void set() {
        SmokeGoesTo x = new SmokeGoesTo();
        due("set(0, 99, 7)", x.set(0, 99, 7), 0);
        due("set(0, -1, 3)", x.set(0, -1, 3), 7);
        due("set(1, 0, 70)", x.set(1, 0, 70), 30);
        due("set(2, 0, 31)", x.set(2, 0, 31), -2);
        due("set(1, 0, 0)", x.set(1, 0, 0), 70);
        due("set(2, 0, 100)", x.set(2, 0, 100), 30);
        due("set(1, 0, 1)", x.set(1, 0, 1), -2);
        due("set(2, 0, 99)", x.set(2, 0, 99), 100);
        due("set(1, 0, 1)", x.set(1, 0, 1), 0);
        due("set(3, 0, 255)", x.set(3, 0, 255), 0);
        due("set(3, 0, 0)", x.set(3, 0, 0), 255);
        due("set(4, 0, 1)", x.set(4, 0, 1), 0);
        due("set(4, 0, 0)", x.set(4, 0, 0), 1);
        x.sitter(MOVER, 4, 2);
        x.sitter(MOVER, 5, 6);
        due("set(5, 1, 9)", x.set(5, 1, 9), 5);
        due("set(5, 1, 0)", x.set(5, 1, 0), 9);
        due("set(6, 0, 6)", x.set(6, 0, 6), -3);
        due("set(6, 0, 2)", x.set(6, 0, 2), 2);
        due("set(6, 0, 7)", x.set(6, 0, 7), 2);
        due("set(6, 1, 2)", x.set(6, 1, 2), 6);
        due("told(0, 2)", x.told(0, 2), 7);
        int[][] bad = {{0, 0, 8}, {0, 0, -1}, {1, 0, -1}, {1, 0, 101}, {2, 0, -1}, {2, 0, 101}, {3, 0, 256},
            {3, 0, -1}, {4, 0, 2}, {4, 0, -1}, {5, 2, 0}, {5, -1, 0}, {5, 0, 10}, {5, 0, -1}, {6, 2, 0},
            {6, -1, 0}, {6, 0, 8}, {6, 0, -1}, {7, 0, 0}, {-1, 0, 0}, {1, 0, Integer.MAX_VALUE},
            {2, 0, Integer.MIN_VALUE}, {Integer.MAX_VALUE, 0, 0}};
        for (int[] b : bad) {
            due("set(" + b[0] + ", " + b[1] + ", " + b[2] + ")", x.set(b[0], b[1], b[2]), -2);
        }
        int[] counts = {2, 3, 1, 99, 0, 0};
        for (int what = 0; what < counts.length; what++) {
            due("count(" + what + ") behind refusals", x.count(what), counts[what]);
        }
        due("NUMBER behind refusals", x.told(0, 1), 4);
    }

    private static void sitter() {
        SmokeGoesTo x = new SmokeGoesTo();
        due("first", x.sitter(SLEEPER, 9, 7), 0);
        due("KIND -1", x.sitter(-1, 0, 0), -2);
        due("KIND 6", x.sitter(6, 0, 0), -2);
        due("NUMBER -1", x.sitter(0, -1, 0), -2);
        due("NUMBER 10", x.sitter(0, 10, 0), -2);
        due("PLACE -1", x.sitter(0, 0, -1), -2);
        due("PLACE 8", x.sitter(0, 0, 8), -2);
        due("KIND ahead of the PLACE that is taken", x.sitter(6, 0, 7), -2);
        due("taken", x.sitter(0, 0, 7), -3);
        for (int s = 1; s < 5; s++) {
            due("next", x.sitter(s, s, s), s);
        }
        due("taken ahead of full", x.sitter(0, 0, 4), -3);
        due("bad ahead of full", x.sitter(0, 0, 9), -2);
        due("full", x.sitter(0, 0, 0), -4);
        due("count(0)", x.count(0), 5);
        for (int s = 1; s < 5; s++) {
            due("KIND", x.told(s, 0), s);
            due("NUMBER", x.told(s, 1), s);
            due("PLACE", x.told(s, 2), s);
        }
    }

    private static void told() {
        SmokeGoesTo x = new SmokeGoesTo();
        x.sitter(SITTER, 0, 5);
        x.sitter(MOVER, 9, 6);
        x.sitter(COUNTER, 2, 3);
        x.sitter(NEIGHBOUR, 9, 7);
        x.sitter(BRAVE, 3, 4);
        int[][] goesAndUps = {{1, 0, 0, 0, 0, 0, 0}, {2, 1, 1, 1, 1, 1, 1}, {7, 0, 0, 1, 1, 1, 1},
            {0, 1, 1, 1, 1, 1, 1}, {6, 0, 0, 0, 1, 0, 1}};
        for (int s = 0; s < 5; s++) {
            for (int what = 3; what < 10; what++) {
                due("told(" + s + ", " + what + ")", x.told(s, what), goesAndUps[s][what - 3]);
            }
        }
        SmokeGoesTo y = new SmokeGoesTo();
        y.sitter(SLEEPER, 0, 2);
        y.sitter(BRAVE, 0, 7);
        y.sitter(COUNTER, 0, 0);
        y.sitter(COUNTER, 9, 1);
        int[][] others = {{6, 0, 0, 0, 0, 0, 0}, {1, 0, 1, 0, 1, 0, 1}, {4, 1, 1, 1, 1, 1, 1}, {5, 0, 0, 0, 0, 0, 0}};
        for (int s = 0; s < 4; s++) {
            for (int what = 3; what < 10; what++) {
                due("told of others(" + s + ", " + what + ")", y.told(s, what), others[s][what - 3]);
            }
        }
        due("told(0, 0)", y.told(0, 0), 5);
        due("told(1, 1)", y.told(1, 1), 0);
        due("told(1, 2)", y.told(1, 2), 7);
        due("told(4, 0)", y.told(4, 0), -2);
        due("told(-1, 0)", y.told(-1, 0), -2);
        due("told(0, -1)", y.told(0, -1), -2);
        due("told(0, 10)", y.told(0, 10), -2);
    }

    private static void feed() {
        SmokeGoesTo x = new SmokeGoesTo();
        due("feed(-1)", x.feed(-1), -2);
        due("feed(256)", x.feed(256), -2);
        for (int i = 1; i <= 160; i++) {
            due("feed", x.feed(i == 1 ? 0 : 255), i);
        }
        due("feed: full", x.feed(32), -4);
        due("feed: bad ahead of full", x.feed(256), -2);
        due("count(7)", x.count(7), 160);
        due("text()", x.text(), -100);
        due("feed: empty again", x.feed(32), 1);
    }

    private static void text() {
        SmokeGoesTo x = new SmokeGoesTo();
        String plain = "bears 1;moves 2;heat 3;";
        due("an empty TAPE", x.text(), -100);
        due("a FAULT", read(x, plain + "x"), -100 - plain.length());
        due("count(7) behind a FAULT", x.count(7), 0);
        due("count(6) behind a FAULT", x.count(6), 1);
        for (int t = 1; t < 6; t++) {
            due("text()", read(x, plain), t);
            due("count(6)", x.count(6), t + 1);
        }
        due("full", read(x, "x"), -4);
        due("count(7) behind full", x.count(7), 1);

        due("1+2*3", bears("1+2*3", 0, 0), 7);
        due("(1+2)*3", bears("( 1 + 2 ) * 3", 0, 0), 9);
        due("10-2-3", bears("10-2-3", 0, 0), 5);
        due("2*3*4", bears("2*3*4", 0, 0), 24);
        due("- 3 + 5", bears("- 3 + 5", 0, 0), 2);
        due("-2*-3", bears("-2*-3", 0, 0), 6);
        due("5--1", bears("5--1", 0, 0), 6);
        due("3<4", bears("3<4", 0, 0), 1);
        due("4<4", bears("4<4", 0, 0), 0);
        due("4=4", bears("2+2=4", 0, 0), 1);
        due("4=5", bears("4=5", 0, 0), 0);
        due("not 0", bears("not 0", 0, 0), 1);
        due("not 7", bears("not 7", 0, 0), 0);
        due("not 1 < 0: of the whole", bears("not 1<0", 0, 0), 1);
        due("not not 7", bears("not not 7", 0, 0), 1);
        due("2 or 0", bears("2 or 0", 0, 0), 1);
        due("0 or 0", bears("0 or 0", 0, 0), 0);
        due("2 and 4", bears("2 and 4", 0, 0), 1);
        due("2 and 0", bears("2 and 0", 0, 0), 0);
        due("1 or 1 and 0", bears("1 or 1 and 0", 0, 0), 1);
        due("(1 or 1) and 0", bears("(1 or 1)and 0", 0, 0), 0);
        due("0 and 0 or 1", bears("0 and 0 or 1", 0, 0), 1);
        due("1 < 2 and 3", bears("1<2 and 3", 0, 0), 1);
        due("wrapping", bears("9999*9999*9999*9999", 0, 0), 99);
        due("wrapping below", bears("5 + 9999*9999*43", 0, 0), 5 + 9999 * 9999 * 43 < 0 ? 0 : 99);
        due("bound above", bears("100", 0, 0), 99);
        due("bound below", bears("-1", 0, 0), 0);
        due("place*8+smoke", bears("place*8+smoke", 4, 0), 36);
        due("minute", bears("minute", 4, 0), 0);
        due("long", bears("long", 4, 0), 1);
        due("number", bears("number", 4, 9), 9);
        due("sitter", bears("sitter", 4, 9), 0);
        due("0007", bears("0007", 0, 0), 7);
        due("between", bears("\n 1\n+\n\n2 \n", 0, 0), 3);
        due("five open", bears("(((((7)))))", 0, 0), 7);
        due("five open, often", bears("(((((7)))))+(((((1)))))+-----1", 0, 0), 7);
        due("not, - and ( mixed", bears("not(not(-1))", 0, 0), 1);
        due("not ends with what it is of", bears("not 0 and(((((1)))))", 0, 0), 1);
        due("not ends, or", bears("not not not not not 0 or(((((0)))))", 0, 0), 1);

        String b = "bears ";
        faultAt("", 0);
        faultAt("  \n ", 4);
        faultAt("bear 1;", 0);
        faultAt(" moves 1;", 1);
        faultAt("bears", 5);
        faultAt("bears 1", 7);
        faultAt("bears 1 ", 8);
        faultAt("bears 1;heat 1;", 8);
        faultAt("bears 1;moves 1;heat 1", 22);
        faultAt("bears 1;moves 1;heat 1;;", 23);
        faultAt("bears 1;moves 1;heat 1; bears", 24);
        faultAt("bears ;", 6);
        faultAt("bears 1 2;", 8);
        faultAt("bears 12345;", 6);
        faultAt("bears 00000;", 6);
        faultAt("bears 1+\t1;", 8);
        faultAt("bears 1+A;", 8);
        faultAt("bears 1/2;", 7);
        faultAt("bears 1+\u00e9;", 8);
        faultAt("bears 1+heat;", 8);
        faultAt("bears 1+minutes;", 8);
        faultAt("bears 1+bears;", 8);
        faultAt("bears 1+moves;", 8);
        faultAt("bears longz;", 6);
        faultAt("bears along;", 6);
        faultAt("bears 1+minut;", 8);
        faultAt("bears 1orand 2;", 7);
        faultAt("bears 1 or;", 10);
        faultAt("bears or 1;", 6);
        faultAt("bears 1<2<3;", 9);
        faultAt("bears 1=2=3;", 9);
        faultAt("bears 1<not 2;", 8);
        faultAt("bears -not 2;", 7);
        faultAt("bears 1+;", 8);
        faultAt("bears 1*;", 8);
        faultAt("bears ();", 7);
        faultAt("bears (1;", 8);
        faultAt("bears 1);", 7);
        faultAt("bears +1;", 6);
        faultAt("bearsx 1;", 0);
        faultAt(b + "((((((1))))));", 11);
        faultAt(b + "------1;", 11);
        faultAt(b + "not not not not not not 1;", 26);
        faultAt(b + "not(-(-(1)));", 13);
        faultAt(b + "(((((-1)))));", 11);
        faultAt(b + "(((((not 1)))));", 11);
        faultAt(b + "(((((1)))))+((((((1))))));", 23);
        faultAt(b + "not -1*-1*(((((1)))));", 20);
        due("bears5long is 'bears5' no: a KEY and a NUMBER", read(new SmokeGoesTo(), "bears5;moves3;heat0;"), 1);
        StringBuilder whole = new StringBuilder("bears 1");
        while (whole.length() < 160 - 16) {
            whole.append("+1");
        }
        whole.append(";moves 1;heat 1;");
        whole.setLength(160);
        due("a TAPE cut short", read(new SmokeGoesTo(), whole.toString()), -260);
        due("a TAPE that is just full",
            read(new SmokeGoesTo(), whole.toString().replaceFirst("\\+1\\+1", " +1") .substring(0, 159) + ";"), 1);
    }

    private static void force() {
        SmokeGoesTo x = new SmokeGoesTo();
        x.sitter(SITTER, 0, 0);
        lay(x, 0, 0, 0);
        read(x, "bears 1;moves 2;heat 3;");
        due("force(2)", x.force(2), -2);
        due("force(-1)", x.force(-1), -2);
        due("night by TEXT 0", x.night(0, 0), 13);
        due("force(1)", x.force(1), 0);
        due("night by TEXT 1", x.night(0, 0), 2);
        due("force(1)", x.force(1), 1);
        due("force(0)", x.force(0), 1);
        due("count(8)", x.count(8), 0);
        due("night by TEXT 0 again", x.night(0, 0), 13);
    }

    /** Night's answers of all (0 .. 3), then of each SITTER (10 .. 50). */
    private static void nightIs(SmokeGoesTo x, String which, int[] all, int[]... ones) {
        for (int what = 0; what < all.length; what++) {
            due(which + ": night(0, " + what + ")", x.night(0, what), all[what]);
        }
        for (int s = 0; s < ones.length; s++) {
            for (int k = 0; k < 5; k++) {
                int what = 10 * (k + 1) + s;
                due(which + ": night(0, " + what + ")", x.night(0, what), ones[s][k]);
            }
        }
    }

    private static void night() {
        SmokeGoesTo x = new SmokeGoesTo();
        x.sitter(SITTER, 0, 1);
        lay(x, 0, 9, 0, -7, 1, 0, 0);
        nightIs(x, "a SITTER stays", new int[] {6 + 7 + 6 + 7 + 8, 1, 0, 0}, new int[] {34, 5, 3, 0, 1});
        x.set(3, 0, 2);
        nightIs(x, "a TENT shelters", new int[] {0, 1, 0, 0}, new int[] {0, 0, 0, 0, 1});
        kindsBear();
        movesAndNeedless();
        eddyTurns();
        textsTold();
        SmokeGoesTo y = new SmokeGoesTo();
        y.sitter(0, 0, 0);
        lay(y, 0);
        nightIs(y, "no MINUTE", new int[] {0, 0, 0, 0}, new int[] {0, 0, 0, 0, 0});
        int[][] none = {{-1, 0}, {4, 0}, {1, 0}, {0, -1}, {0, 4}, {0, 9}, {0, 11}, {0, 19}, {0, 21}, {0, 51}, {0, 60},
            {0, -10}, {0, Integer.MAX_VALUE}, {0, Integer.MIN_VALUE}, {1, 99}};
        for (int[] a : none) {
            due("night(" + a[0] + ", " + a[1] + ")", y.night(a[0], a[1]), -100);
        }
        y.sheet(2, 2, 1);
        y.cell(2, 0, -256);
        due("an int below 0", y.night(2, 1), 7);
        y.sheet(2, 1, 1);
        y.cell(2, 0, 32768);
        due("a short below 0", y.night(2, 1), 7);
        y.cell(2, 0, 256);
        due("a short above 0", y.night(2, 1), 1);
    }

    /** What each KIND bears of 10, 11 (bears 9 + long) in two MINUTES in the smoke, as none gets up by then. */
    private static void kindsBear() {
        int[] costs = {21, 20 + 2, 11 + 13, 19 + 2, 5 + 6 + 2, 0};
        for (int kind = 0; kind < 6; kind++) {
            SmokeGoesTo x = new SmokeGoesTo();
            read(x, "bears 9+long;moves 2;heat 0;");
            x.force(1);
            x.sitter(kind, kind == COUNTER ? 2 : 1, 3);
            x.set(0, 0, 3);
            lay(x, 0, 0, 0);
            due("KIND " + kind + " bears", x.night(0, 0), costs[kind]);
        }
        SmokeGoesTo free = new SmokeGoesTo();
        read(free, "bears 0;moves 0;heat 0;");
        free.force(1);
        free.sitter(NEIGHBOUR, 0, 0);
        lay(free, 0, 0);
        due("a NEIGHBOUR bears 0 at least", free.night(0, 10), 0);
    }

    private static void movesAndNeedless() {
        SmokeGoesTo x = new SmokeGoesTo();
        x.sitter(MOVER, 0, 0);
        x.sitter(SLEEPER, 0, 4);
        x.sitter(SITTER, 0, 5);
        lay(x, 0, 0, 0);
        nightIs(x, "4 and 5 are taken", new int[] {15, 0, 1, 0}, new int[] {15, 1, 1, 1, 6}, new int[] {0, 0, 0, 0, 4});
        lay(x, 0, 0, 1);
        due("NEEDLESS", x.night(0, 3), 1);
        lay(x, 0, 0);
        due("NEEDLESS wants a MINUTE more", x.night(0, 3), 0);
        due("got up", x.night(0, 2), 1);

        SmokeGoesTo n = new SmokeGoesTo();
        n.sitter(NEIGHBOUR, 0, 1);
        lay(n, 0, 1, 1, 0);
        nightIs(n, "a NEIGHBOUR goes with the wind", new int[] {28, 2, 2, 1}, new int[] {28, 2, 1, 2, 3});
    }

    private static void eddyTurns() {
        SmokeGoesTo x = new SmokeGoesTo();
        x.set(4, 0, 1);
        x.sitter(MOVER, 0, 0);
        lay(x, 0, 0, 0);
        due("to the right, if both are as long", x.night(0, 1), 1);
        lay(x, 0, 0, 1);
        due("nearer to the right", x.night(0, 1), 2);
        lay(x, 0, 0, -1);
        due("nearer to the left", x.night(0, 1), 6);
        lay(x, 0, 0, 0, 0);
        due("by the MINUTE ahead alone", x.night(0, 1), 1);
        due("NEEDLESS by an eddy", x.night(0, 3), 1);
        SmokeGoesTo n = new SmokeGoesTo();
        n.set(4, 0, 1);
        n.sitter(NEIGHBOUR, 0, 0);
        lay(n, 0, 0, 1);
        nightIs(n, "not at all, if it is there", new int[] {28, 1, 2, 1}, new int[] {28, 2, 1, 2, 2});
        lay(n, 0, 0, 0);
        nightIs(n, "it follows", new int[] {28, 1, 2, 1}, new int[] {28, 2, 1, 2, 2});
        n.set(4, 0, 0);
        due("no EDDY", n.night(0, 1), 0);
    }

    private static void textsTold() {
        SmokeGoesTo x = new SmokeGoesTo();
        x.sitter(SLEEPER, 0, 7);
        x.sitter(COUNTER, 1, 2);
        read(x, "bears 0;moves place*10+long+minute*4;heat 0;");
        read(x, "bears 0;moves 0;heat long*50+minute*9+sitter;");
        read(x, "bears minute*10+smoke;moves 0;heat 0;");
        x.set(0, 0, 2);
        lay(x, 0, 0, 0, 0);
        x.force(1);
        due("moves by the PLACE left, l as it was", x.night(0, 11), 1 + 2 + 20 + 2 + 4);
        x.force(2);
        due("heat without l, sitter 1 in its last MINUTE", x.night(0, 11), 3 + 18 + 1);
        due("heat of sitter 0", x.night(0, 10), 27);
        x.force(3);
        due("bears by MINUTE and smoke", x.night(0, 11), 2 + 1 + 12 + 2);
    }

    private static void sit() {
        SmokeGoesTo x = new SmokeGoesTo();
        x.sitter(MOVER, 0, 1);
        x.sitter(SITTER, 0, 7);
        lay(x, 0, 1, 0);
        due("sit(0)", x.sit(0), 15);
        due("THE SMOKE then", x.count(1), 1);
        due("PLACE then", x.told(0, 2), 5);
        due("PLACE of the other one", x.told(1, 2), 7);
        due("sit(0) again", x.sit(0), 0);
        due("THE SMOKE then", x.count(1), 2);
        due("sit(-1)", x.sit(-1), -2);
        due("sit(4)", x.sit(4), -2);
        due("sit(1)", x.sit(1), -11);
        due("THE SMOKE behind refusals", x.count(1), 2);
        SmokeGoesTo c = new SmokeGoesTo();
        c.sitter(COUNTER, 1, 0);
        lay(c, 0, 0);
        due("l is 0 at the next NIGHT", c.sit(0) + c.sit(0), 14);
        due("so it never got up", c.told(0, 2), 0);
    }

    private static void likely() {
        SmokeGoesTo x = new SmokeGoesTo();
        x.set(0, 0, 7);
        x.set(1, 0, 20);
        x.set(2, 0, 50);
        long[] one = {1, 0, 0, 0, 0, 0, 1, 3};
        long[] below = {2, 1, 1, 1, 1, 1, 5, 10};
        for (int p = 0; p < 8; p++) {
            due("likely(1, " + p + ", 0)", x.likely(1, p, 0), one[p]);
            due("likely(1, " + p + ", 1)", x.likely(1, p, 1), below[p]);
        }
        due("two to the right", x.likely(2, 1, 0), 1);
        due("two to the right, below", x.likely(2, 1, 1), 4);
        due("two, there: 9 + 20 of 100", x.likely(2, 7, 0), 29);
        due("two, there, below", x.likely(2, 7, 1), 100);
        due("0 MINUTES", x.likely(0, 7, 0), 1);
        due("0 MINUTES, below", x.likely(0, 7, 1), 1);
        x.set(2, 0, 0);
        x.set(1, 0, 100);
        due("eight to the left", x.likely(8, 7, 0), 1);
        x.set(4, 0, 1);
        x.set(3, 0, 255);
        due("no EDDY, no TENT", x.likely(7, 0, 0), 1);
        long no = SmokeGoesTo.NO;
        due("n 9", x.likely(9, 0, 0), no);
        due("n -1", x.likely(-1, 0, 0), no);
        due("PLACE 8", x.likely(0, 8, 0), no);
        due("PLACE -1", x.likely(0, -1, 0), no);
        due("part 2", x.likely(0, 0, 2), no);
        due("part -1", x.likely(0, 0, -1), no);
        SmokeGoesTo odd = new SmokeGoesTo();
        odd.set(1, 0, 1);
        odd.set(2, 0, 2);
        due("a long above", odd.likely(8, 0, 0), 3965437615137393L);
        due("a long below", odd.likely(8, 0, 1), 5000000000000000L);
        odd.set(2, 0, 0);
        due("99 ways of 100 to the eighth", odd.likely(8, 1, 0), 99);
        due("99 ways, below", odd.likely(8, 1, 1), 1250000000000000L);
    }

    private static void mean() {
        SmokeGoesTo x = new SmokeGoesTo();
        due("1 MINUTE", x.mean(1, 1, 0), 3);
        due("1 MINUTE, below", x.mean(1, 1, 1), 10);
        due("2 MINUTES: 40 and 16 and 18 of 100", x.mean(2, 0, 0), 37);
        due("2 MINUTES, below", x.mean(2, 0, 1), 50);
        due("not there", x.mean(3, 4, 0), 0);
        due("not there, below", x.mean(3, 4, 1), 1);
        x.set(1, 0, 0);
        x.set(2, 0, 0);
        due("8 MINUTES there", x.mean(8, 0, 0), 8);
        due("8 MINUTES there, below", x.mean(8, 0, 1), 1);
        long no = SmokeGoesTo.NO;
        due("n 0", x.mean(0, 0, 0), no);
        due("n 9", x.mean(9, 0, 0), no);
        due("PLACE 8", x.mean(1, 8, 0), no);
        due("PLACE -1", x.mean(1, -1, 0), no);
        due("part 2", x.mean(1, 0, 2), no);
        due("part -1", x.mean(1, 0, -1), no);
    }

    private static void seat() {
        SmokeGoesTo x = new SmokeGoesTo();
        x.sitter(SITTER, 0, 0);
        x.sitter(SITTER, 0, 2);
        due("the first of like ones", x.seat(0, 1), 3);
        due("one's own", x.seat(1, 1), 2);
        x.set(3, 0, 4);
        due("one's own with a TENT", x.seat(1, 1), 3);
        x.set(3, 0, 255 - 128);
        due("but one without a TENT", x.seat(1, 1), 7);
        x.set(3, 0, 255 - 1);
        due("but the one of another", x.seat(1, 1), -1);
        due("but one's own", x.seat(0, 1), 0);
        x.set(3, 0, 255);
        due("none", x.seat(0, 1), -1);
        x.set(3, 0, 0);
        due("8 MINUTES", x.seat(0, 8), 4);
        due("seat(2, 1)", x.seat(2, 1), -2);
        due("seat(-1, 1)", x.seat(-1, 1), -2);
        due("seat(0, 0)", x.seat(0, 0), -2);
        due("seat(0, 9)", x.seat(0, 9), -2);
    }

    private static void gap() {
        SmokeGoesTo x = new SmokeGoesTo();
        x.sitter(SITTER, 0, 4);
        x.sitter(SITTER, 0, 3);
        due("all PLACES are free to them", x.gap(1, 0), 2);
        due("of like ones the first", x.gap(1, 1), 3);
        x.set(3, 0, 129);
        due("a TENT's MEAN is 0", x.gap(1, 0), 0);
        due("and another PLACE's is", x.gap(1, 1), 2);
        x.set(3, 0, 0);
        x.set(0, 0, 5);
        due("by 8 MINUTES: opposite first", x.gap(8, 0), 0);
        due("by 8 MINUTES: then beside it", x.gap(8, 1), 1);
        x.set(1, 0, 40);
        due("by 8 MINUTES, more to the left", x.gap(8, 0), 0);
        due("by 8 MINUTES, more to the left: 7 is next", x.gap(8, 1), 1);
        SmokeGoesTo five = new SmokeGoesTo();
        for (int s = 0; s < 5; s++) {
            five.sitter(0, 0, s);
        }
        int[] places = {1, 3, 4, 5, 6};
        five.set(1, 0, 60);
        for (int s = 0; s < 5; s++) {
            due("five, less to the right", five.gap(2, s), new int[] {1, 2, 3, 4, 5}[s]);
        }
        five.set(3, 0, 1 << 6 | 1);
        for (int s = 0; s < 5; s++) {
            due("five, two TENTS", five.gap(2, s), new int[] {0, 3, 4, 5, 6}[s]);
        }
        five.set(3, 0, 1 << 6 | 1 << 1);
        for (int s = 0; s < 5; s++) {
            due("five, two other TENTS", five.gap(2, s), places[s]);
        }
        due("gap(0, 0)", x.gap(0, 0), -2);
        due("gap(9, 0)", x.gap(9, 0), -2);
        due("gap(1, 2)", x.gap(1, 2), -2);
        due("gap(1, -1)", x.gap(1, -1), -2);
        due("gap(1, 0) of nobody", new SmokeGoesTo().gap(1, 0), -2);
    }

    private static void stay() {
        SmokeGoesTo x = new SmokeGoesTo();
        x.sitter(MOVER, 0, 0);
        x.sitter(COUNTER, 9, 4);
        x.sitter(SLEEPER, 0, 2);
        x.sitter(SITTER, 0, 1);
        lay(x, 0, 0);
        due("a MOVER would have less", x.stay(0), 1);
        lay(x, 0, 0, 0, 0);
        due("not by three MINUTES: 15 are less than 21", x.stay(0), 0);
        x.set(0, 0, 4);
        due("a COUNTER would have less", x.stay(0), 2);
        x.set(0, 0, 2);
        due("a SLEEPER would not", x.stay(0), 0);
        x.set(0, 0, 1);
        due("a SITTER is one", x.stay(0), 0);
        due("stay(-1)", x.stay(-1), -2);
        due("stay(4)", x.stay(4), -2);
        due("stay(1)", x.stay(1), -11);
        due("KINDS stay", x.told(0, 0), MOVER);

        SmokeGoesTo others = new SmokeGoesTo();
        others.set(4, 0, 1);
        others.sitter(MOVER, 0, 0);
        others.sitter(NEIGHBOUR, 0, 1);
        lay(others, 0, 0, 0, 0);
        due("the others stay as they are: their eddies too", others.stay(0), 2);
    }

    private static void eddies() {
        SmokeGoesTo x = new SmokeGoesTo();
        x.sitter(MOVER, 0, 0);
        x.sitter(SITTER, 0, 1);
        lay(x, 0, 0, 0, 0);
        due("an EDDY brings two MINUTES", x.eddies(0), 13);
        x.set(4, 0, 1);
        due("whatever EDDY is", x.eddies(0), 13);
        due("EDDY stays", x.count(5), 1);
        lay(x, 0, 0, 1, 0);
        due("an EDDY takes two", x.eddies(0), -13);
        due("eddies(-1)", x.eddies(-1), -100000);
        due("eddies(4)", x.eddies(4), -100000);
        due("eddies(1)", x.eddies(1), -100000);
    }

    private static void best() {
        SmokeGoesTo x = new SmokeGoesTo();
        x.sitter(SITTER, 0, 2);
        x.sitter(SITTER, 0, 3);
        lay(x, 0, 0, 1, 1, 1, 1, 1, 1);
        due("the PLACE that isn't smoked", x.best(0, 0, 0), 7);
        due("COST there", x.best(0, 0, 1), 0);
        x.set(3, 0, 1 << 6 | 1 << 3);
        due("a TENT will do, not another's PLACE", x.best(0, 0, 0), 6);
        due("one's own PLACE", x.best(0, 1, 0), 3);
        x.set(3, 0, 0);
        lay(x, 0, 0, 1, 1, 1, 1, 1, 1, 1);
        due("of like ones the first", x.best(0, 0, 0), 0);
        due("COST there", x.best(0, 0, 1), 6);
        due("it stays where it sits", x.told(0, 2), 2);
        int[][] bad = {{-1, 0, 0}, {4, 0, 0}, {0, -1, 0}, {0, 2, 0}, {0, 0, -1}, {0, 0, 2}, {1, 2, 0}, {1, 0, 2}};
        for (int[] b : bad) {
            due("best(" + b[0] + ", " + b[1] + ", " + b[2] + ")", x.best(b[0], b[1], b[2]), -2);
        }
        due("best(1, 0, 0)", x.best(1, 0, 0), -11);
    }

    private static void eyes() {
        SmokeGoesTo x = new SmokeGoesTo();
        x.sitter(MOVER, 0, 1);
        lay(x, 0, 1);
        due("one MINUTE", x.eyes(0, 1, -1), 1);
        due("by a wind to the right", x.eyes(0, 1, -2), 3);
        due("any KIND", x.eyes(0, 1, 0), 63);
        due("two MINUTES", x.eyes(0, 2, -1), 4);
        due("the first row", x.eyes(0, 2, -2), 23);
        lay(x, 0, 2);
        due("a MOVER is not in it twice", x.eyes(0, 2, -1), 0);
        due("no first row", x.eyes(0, 2, -2), -1);
        due("but other KINDS are: a NEIGHBOUR by 33", x.eyes(0, 2, 0), 1 << SITTER | 1 << NEIGHBOUR | 1 << BRAVE | 1 << SLEEPER);
        x.set(5, 0, 1);
        due("a COUNTER of 1, too", x.eyes(0, 2, 0), 63 - 2);
        due("KIND stays", x.told(0, 0), MOVER);
        due("no row of none", x.eyes(0, 0, -1), 0);
        due("no first of none", x.eyes(0, 0, -2), -1);
        due("no KIND", x.eyes(0, 0, 0), 0);
        lay(x, 0, 0);
        due("a row of none", x.eyes(0, 0, -1), 1);
        due("its digits", x.eyes(0, 0, -2), 0);
        due("all KINDS", x.eyes(0, 0, 0), 63);
        due("five MINUTES, first", x.eyes(0, 5, -2), 11111);
        lay(x, 0, -1);
        due("below 0", x.eyes(0, 5, -1), 0);
        x.sitter(SITTER, 0, 2);
        due("its size isn't how many SITTERS there are", x.eyes(0, 1, -1), -100);
        x.sheet(0, 2, 2);
        x.cell(0, 0, 1);
        x.cell(0, 1, 1);
        due("two SITTERS", x.eyes(0, 2, -1), 1);
        due("two SITTERS, first", x.eyes(0, 2, -2), 33);
        due("KINDS of the second", x.eyes(0, 2, 1), 63);
        x.set(6, 1, 5);
        x.cell(0, 0, 0);
        x.cell(0, 1, 2);
        x.set(0, 0, 6);
        due("the other one's, at 5", x.eyes(0, 2, -2), 12);
        int[][] none = {{-1, 1, -1}, {4, 1, -1}, {0, -1, -1}, {0, 6, -1}, {0, 1, -3}, {0, 1, 2}, {1, 1, -1}};
        for (int[] a : none) {
            due("eyes(" + a[0] + ", " + a[1] + ", " + a[2] + ")", x.eyes(a[0], a[1], a[2]), -100);
        }
    }

    private static void film() {
        SmokeGoesTo x = new SmokeGoesTo();
        x.sitter(SITTER, 0, 1);
        x.sitter(MOVER, 0, 2);
        x.sitter(SITTER, 0, 6);
        x.sheet(1, 2, 4);
        x.cell(1, 0, 70000);
        x.cell(1, 2, 70000);
        x.sheet(0, 1, 30);
        due("film(0, 1)", x.film(0, 1), 3);
        due("it is of bytes", x.copy(0, 0, 1, 0, 0), UNLIKE);
        due("its size", x.cell(0, 3, 0), OUTSIDE);
        due("THE SMOKE stays", x.count(1), 0);
        due("PLACES stay", x.told(1, 2), 2);
        due("as often: two in the smoke at 1, one at 2", x.eyes(0, 4, -2) > 0 ? 1 : 0, 1);
        lay(x, 2, 2, 1, 0);
        due("the same as by hand", x.eyes(2, 4, -1), x.eyes(0, 4, -1));
        due("film(-1, 1)", x.film(-1, 1), -2);
        due("film(0, 4)", x.film(0, 4), -2);
        due("film(4, 3)", x.film(4, 3), -2);
        due("film(0, 3)", x.film(0, 3), -11);
        lay(x, 3, 1, 1);
        due("a SHEET of itself", x.film(3, 3), 3);
        lay(x, 2, 1, 1, 0);
        due("by its winds", x.eyes(3, 2, -2), 33);
        SmokeGoesTo nobody = new SmokeGoesTo();
        lay(nobody, 0, 1);
        due("of nobody", nobody.film(1, 0), 0);
        due("a row of 0", nobody.cell(1, 0, 1), OUTSIDE);
        SmokeGoesTo long40 = new SmokeGoesTo();
        long40.sitter(SITTER, 0, 0);
        long40.sheet(0, 0, 40);
        long40.film(1, 0);
        long40.cell(1, 0, 40);
        due("40 MINUTES", long40.film(1, 0), 1);
        long40.sheet(2, 0, 8);
        due("40 MINUTES, copied", long40.copy(1, 0, 2, 7, 1), 1);
        due("40 is above 0", long40.night(2, 1), 1);
    }

    /** The same winds as DRAWN's, laid on a SHEET by hand. */
    private static void layDrawn(SmokeGoesTo x, int sheet, int seed, int left, int right) {
        x.sheet(sheet, 0, 10);
        int z = seed;
        for (int i = 0; i < 10; i++) {
            z = z * 1103515245 + 12345;
            int q = (z >>> 9) % 100;
            x.cell(sheet, i, q < left ? -1 : q < left + right ? 1 : 0);
        }
    }

    private static void drawn() {
        SmokeGoesTo x = new SmokeGoesTo();
        x.set(4, 0, 1);
        x.sitter(MOVER, 0, 1);
        x.sitter(COUNTER, 0, 7);
        x.sitter(NEIGHBOUR, 0, 3);
        x.sitter(SITTER, 0, 0);
        x.set(1, 0, 25);
        x.set(2, 0, 45);
        int[] seeds = {0, 1, 5, -1, 77, 123456789, Integer.MAX_VALUE, Integer.MIN_VALUE};
        for (int seed : seeds) {
            layDrawn(x, 0, seed, 25, 45);
            due("drawn(" + seed + ")", x.drawn(seed), x.night(0, 0));
        }
        due("THE SMOKE stays", x.count(1), 0);
        x.set(1, 0, 0);
        x.set(2, 0, 0);
        x.set(4, 0, 0);
        due("ten MINUTES at PLACE 0", x.drawn(3), 105);
        x.set(3, 0, 1);
        due("ten MINUTES in a TENT", x.drawn(3), 0);
        due("nobody", new SmokeGoesTo().drawn(9), 0);
    }

    private static void chance() {
        SmokeGoesTo x = new SmokeGoesTo();
        x.sitter(MOVER, 0, 2);
        int quiet = 0;
        for (int i = 0; i < 20; i++) {
            layDrawn(x, 0, Integer.MAX_VALUE - 5 + i, 30, 30);
            if (x.night(0, 2) == 0) quiet++;
        }
        due("across the greatest int, as a product", x.chance(Integer.MAX_VALUE - 5, 20, 0) * 20,
            x.chance(Integer.MAX_VALUE - 5, 20, 1) * quiet);
        due("some are quiet, some are not", quiet > 0 && quiet < 20 ? 1 : 0, 1);
        x.set(1, 0, 0);
        x.set(2, 0, 0);
        due("all", x.chance(7, 20, 0), 1);
        due("all, below", x.chance(7, 20, 1), 1);
        x.set(2, 0, 100);
        due("none", x.chance(7, 20, 0), 0);
        due("none, below", x.chance(7, 20, 1), 1);
        x.set(3, 0, 4);
        due("all in a TENT", x.chance(7, 20, 0), 1);
        long no = SmokeGoesTo.NO;
        due("n 0", x.chance(0, 0, 0), no);
        due("n 21", x.chance(0, 21, 0), no);
        due("n -1", x.chance(0, -1, 0), no);
        due("part 2", x.chance(0, 1, 2), no);
        due("part -1", x.chance(0, 1, -1), no);
    }

    private static void image() {
        SmokeGoesTo x = new SmokeGoesTo();
        due("of nobody", x.image(), 0);
        due("back of nobody", x.back(), 0);
        x.sitter(MOVER, 1, 1);
        due("of one", x.image(), 1);
        x.set(5, 0, 7);
        x.image();
        x.set(5, 0, 2);
        due("the last one", x.back(), 1);
        due("is kept", x.told(0, 1), 7);
    }

    private static void back() {
        SmokeGoesTo x = new SmokeGoesTo();
        due("none", x.back(), -3);
        x.sitter(MOVER, 1, 1);
        x.sitter(BRAVE, 2, 5);
        read(x, "bears 1;moves 2;heat 3;");
        x.set(0, 0, 4);
        x.set(1, 0, 10);
        x.set(2, 0, 20);
        x.set(3, 0, 6);
        x.set(4, 0, 1);
        x.force(1);
        x.image();
        for (int round = 0; round < 2; round++) {
            x.sitter(SLEEPER, 3, 0);
            x.set(0, 0, 2);
            x.set(2, 0, 30);
            x.set(1, 0, 70);
            x.set(3, 0, 64);
            x.set(4, 0, 0);
            x.set(5, 1, 9);
            x.set(6, 0, 7);
            x.set(6, 1, 1);
            x.force(0);
            x.sheet(0, 0, 3);
            x.feed(98);
            due("back()", x.back(), 2);
            int[] counts = {2, 4, 10, 20, 6, 1, 2, round + 1, 1};
            for (int what = 0; what < counts.length; what++) {
                due("count(" + what + ")", x.count(what), counts[what]);
            }
            int[][] told = {{MOVER, 1, 1}, {BRAVE, 2, 5}};
            for (int s = 0; s < 2; s++) {
                for (int what = 0; what < 3; what++) {
                    due("told(" + s + ", " + what + ")", x.told(s, what), told[s][what]);
                }
            }
            due("who came since is gone", x.told(2, 0), -2);
            due("SHEETS stay", x.cell(0, 2, 1), 1);
        }
        due("the PLACE is free", x.sitter(COUNTER, 0, 0), 2);
        due("by another KIND", x.told(2, 0), COUNTER);
    }

    private static void count() {
        SmokeGoesTo x = new SmokeGoesTo();
        x.sitter(0, 0, 3);
        x.set(0, 0, 6);
        x.set(1, 0, 11);
        x.set(2, 0, 22);
        x.set(3, 0, 200);
        x.set(4, 0, 1);
        read(x, "bears 1;moves 1;heat 1;");
        read(x, "bears 2;moves 1;heat 1;");
        x.feed(1);
        x.force(2);
        int[] counts = {1, 6, 11, 22, 200, 1, 3, 1, 2};
        for (int what = 0; what < counts.length; what++) {
            due("count(" + what + ")", x.count(what), counts[what]);
        }
        due("count(-1)", x.count(-1), -2);
        due("count(9)", x.count(9), -2);
    }

    private static void sheet() {
        SmokeGoesTo x = new SmokeGoesTo();
        for (int sort = 0; sort < 3; sort++) {
            due("sheet(0, sort, 40)", x.sheet(0, sort, 40), 1);
            due("item 39", x.cell(0, 39, 5), 1);
            due("item 40", x.cell(0, 40, 5), OUTSIDE);
        }
        x.cell(0, 0, 1);
        due("anew", x.sheet(0, 2, 1), 1);
        due("all 0", x.night(0, 1), 0);
        due("a row of 0", x.sheet(0, 0, 0), 1);
        due("item 0 of none", x.cell(0, 0, 0), OUTSIDE);
        due("41", x.sheet(0, 0, 41), -2);
        due("-1", x.sheet(0, 0, -1), NEGATIVE);
        due("the greatest int", x.sheet(0, 0, Integer.MAX_VALUE), -2);
        due("the least int", x.sheet(0, 0, Integer.MIN_VALUE), NEGATIVE);
        due("sort 3", x.sheet(0, 3, 1), -2);
        due("sort -2", x.sheet(0, -2, 1), -2);
        due("SHEET 4", x.sheet(4, 0, 1), -2);
        due("SHEET -1", x.sheet(-1, 0, 1), -2);
        due("sort ahead of n", x.sheet(0, 3, -1), -2);
        due("refusals change nothing", x.cell(0, 0, 0), OUTSIDE);
        due("missing, n does not matter", x.sheet(0, -1, -7), 1);
        due("missing, n does not matter", x.sheet(1, -1, 99), 1);
        due("is missing", x.cell(0, 0, 0), MISSING);
        due("SHEET 3", x.sheet(3, 1, 2), 1);
    }

    /** What stands in item i, as -1, 0, 1: where THE SMOKE goes by it. */
    private static int sign(SmokeGoesTo x, int sheet, int i) {
        x.sheet(3, 0, 1);
        x.sheet(2, 1, 1);
        int sort = x.copy(sheet, i, 3, 0, 1) == 1 ? 3 : x.copy(sheet, i, 2, 0, 1) == 1 ? 2 : sheet;
        int to = x.night(sort, 1);
        return to == 7 ? -1 : to;
    }

    private static void cell() {
        SmokeGoesTo x = new SmokeGoesTo();
        int[][] bytes = {{127, 1}, {128, -1}, {255, -1}, {256, 0}, {-128, -1}, {-129, 1}, {257, 1}};
        x.sheet(0, 0, 1);
        for (int[] b : bytes) {
            due("cell(0, 0, " + b[0] + ")", x.cell(0, 0, b[0]), 1);
            due("its sign", sign(x, 0, 0), b[1]);
        }
        int[][] shorts = {{32767, 1}, {32768, -1}, {65536, 0}, {-32768, -1}, {-32769, 1}, {128, 1}, {256, 1}};
        x.sheet(0, 1, 1);
        for (int[] s : shorts) {
            due("cell(0, 0, " + s[0] + ")", x.cell(0, 0, s[0]), 1);
            due("its sign", sign(x, 0, 0), s[1]);
        }
        int[][] ints = {{65536, 1}, {32768, 1}, {Integer.MIN_VALUE, -1}, {0, 0}, {Integer.MAX_VALUE, 1}};
        x.sheet(0, 2, 1);
        for (int[] i : ints) {
            due("cell(0, 0, " + i[0] + ")", x.cell(0, 0, i[0]), 1);
            due("its sign", sign(x, 0, 0), i[1]);
        }
        due("item 1", x.cell(0, 1, 0), OUTSIDE);
        due("item -1", x.cell(0, -1, 0), OUTSIDE);
        due("missing", x.cell(1, -1, 0), MISSING);
        due("SHEET 4", x.cell(4, 0, 0), -2);
        due("SHEET -1", x.cell(-1, 0, 0), -2);
    }

    private static void copy() {
        SmokeGoesTo x = new SmokeGoesTo();
        lay(x, 0, 1, -1, 1, -1, 0);
        lay(x, 1, 0, 0, 0);
        due("copy(0, 1, 1, 0, 3)", x.copy(0, 1, 1, 0, 3), 3);
        int[] after = {-1, 1, -1};
        for (int i = 0; i < 3; i++) {
            due("item " + i, sign(x, 1, i), after[i]);
        }
        due("onto itself, to the right", x.copy(0, 0, 0, 1, 4), 4);
        int[] right = {1, 1, -1, 1, -1};
        for (int i = 0; i < 5; i++) {
            due("as they were " + i, sign(x, 0, i), right[i]);
        }
        due("onto itself, to the left", x.copy(0, 1, 0, 0, 4), 4);
        int[] back = {1, -1, 1, -1, -1};
        for (int i = 0; i < 5; i++) {
            due("as they were " + i, sign(x, 0, i), back[i]);
        }
        due("none from the end", x.copy(0, 5, 1, 3, 0), 0);
        int[][] outside = {{0, 6, 1, 0, 0}, {0, 0, 1, 4, 0}, {0, -1, 1, 0, 1}, {0, 0, 1, -1, 1}, {0, 0, 1, 0, -1},
            {0, 0, 1, 0, 4}, {0, 3, 1, 0, 3}, {0, 0, 1, 1, 3}, {0, Integer.MAX_VALUE, 1, 0, 1},
            {0, 1, 1, 0, Integer.MAX_VALUE}, {0, 0, 1, Integer.MAX_VALUE, 2}, {0, 0, 1, 0, Integer.MIN_VALUE}};
        for (int[] o : outside) {
            due("copy from " + o[1] + " to " + o[3] + ", " + o[4], x.copy(o[0], o[1], o[2], o[3], o[4]), OUTSIDE);
        }
        for (int i = 0; i < 3; i++) {
            due("refusals change nothing " + i, sign(x, 1, i), after[i]);
        }
        x.sheet(2, -1, 0);
        x.sheet(3, 1, 5);
        due("unlike", x.copy(0, 0, 3, 0, 1), UNLIKE);
        due("unlike ahead of outside", x.copy(0, 9, 3, 0, 1), UNLIKE);
        due("missing", x.copy(0, 0, 2, 0, 1), MISSING);
        due("missing, the first", x.copy(2, 0, 0, 0, 1), MISSING);
        due("bad", x.copy(0, 0, 4, 0, 1), -2);
        due("bad ahead of missing", x.copy(2, 0, -1, 0, 1), -2);
        due("bad, the first", x.copy(4, 0, 2, 0, 1), -2);
    }

    private static void sitters() {
        SmokeGoesTo x = new SmokeGoesTo();
        lay(x, 0, 7, 1, 2, 3, 6, 0, 0, 2, 4, 5, 5, 9, 6, 0, 0);
        due("left out: KIND 6, the PLACE of another none", x.sitters(0, 0, 1, 4), 3);
        int[][] told = {{1, 2, 3}, {2, 4, 5}, {5, 9, 6}};
        for (int s = 0; s < 3; s++) {
            for (int what = 0; what < 3; what++) {
                due("told(" + s + ", " + what + ")", x.told(s, what), told[s][what]);
            }
        }
        due("they are there by now", x.sitters(0, 0, 1, 1), 0);
        lay(x, 1, 0, 0, 0, 0, 0, 1, 0);
        due("the third is outside", x.sitters(1, 0, 0, 3), OUTSIDE);
        due("what stood ahead came", x.count(0), 5);
        due("full ones are left out", x.sitters(1, 0, 0, 2), 0);
        due("none", x.sitters(1, 0, 0, 0), 0);
        due("none from outside", x.sitters(1, 0, 99, 0), 0);
        due("from -1", x.sitters(1, 0, -1, 1), OUTSIDE);
        due("from the greatest int", x.sitters(1, 0, Integer.MAX_VALUE, 5), OUTSIDE);
        due("from the least int", x.sitters(1, 0, Integer.MIN_VALUE, 5), OUTSIDE);
        due("another sort", x.sitters(1, 1, 0, 0), UNLIKE);
        due("missing", x.sitters(2, 2, 0, 0), MISSING);
        int[][] bad = {{-1, 0, 0, 0}, {4, 0, 0, 0}, {1, -1, 0, 0}, {1, 3, 0, 0}, {1, 0, 0, -1}, {1, 0, 0, 6},
            {2, 0, 0, 6}, {1, 1, 0, 6}};
        for (int[] b : bad) {
            due("sitters(" + b[0] + ", " + b[1] + ", " + b[2] + ", " + b[3] + ")",
                x.sitters(b[0], b[1], b[2], b[3]), -2);
        }
        SmokeGoesTo y = new SmokeGoesTo();
        y.sheet(0, 2, 15);
        for (int i = 0; i < 15; i++) {
            y.cell(0, i, i / 3);
        }
        due("five", y.sitters(0, 2, 0, 5), 5);
        due("the fifth", y.told(4, 0) * 100 + y.told(4, 1) * 10 + y.told(4, 2), 444);
        SmokeGoesTo z = new SmokeGoesTo();
        lay(z, 0, 256 + 5, 1, 2);
        due("bytes are cut", z.sitters(0, 0, 0, 1), 1);
    }

    private static void taken() {
        int[] under = {1, 1 | 2, 1 | 4, 1 | 2 | 8, 1 | 4 | 16, 1 | 32};
        for (int kind = 0; kind < 6; kind++) {
            SmokeGoesTo x = new SmokeGoesTo();
            x.sitter(kind, 7, 0);
            for (int k = 0; k < 6; k++) {
                due("KIND " + kind + " taken for " + k, x.taken(0, k), (under[kind] >> k & 1) == 1 ? 7 : UNLIKE);
            }
            due("k -1", x.taken(0, -1), -2);
            due("k 6", x.taken(0, 6), -2);
            due("k ahead of SITTER", x.taken(1, 6), -2);
            due("SITTER 1", x.taken(1, 0), MISSING);
            due("SITTER -1", x.taken(-1, 0), MISSING);
        }
    }
}
