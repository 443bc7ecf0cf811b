import java.io.IOException;
import java.nio.charset.StandardCharsets;
import java.nio.file.Files;
import java.nio.file.Path;

/**
 * Each sentence of the document that names a bound, by its own words: the value just inside, the one just
 * outside, the empty and the full state, what goes round or wraps. (Refused calls: SmokeGoesToRefusals.)
 */
public final class SmokeGoesToBounds {
    private static final int NONE = SmokeGoesTo.NONE, BAD = SmokeGoesTo.BAD, STATE = SmokeGoesTo.STATE;
    private static final int FULL = SmokeGoesTo.FULL;
    private static final int MISSING = -11, OUTSIDE = -12, UNLIKE = -13, NEGATIVE = -14;
    private static final int SITTER = 0, MOVER = 1, COUNTER = 2, NEIGHBOUR = 3, BRAVE = 4, SLEEPER = 5;
    private static final int COST = 10, OFTEN = 20, LONGEST = 30, UPS = 40, PLACE = 50;
    private static final int ALL_KINDS = 63;

    private static final Path DOCUMENT = Path.of("../shared/DOC.md");

    private static String document = null;
    private static String sentence = "";
    private static int sentences = 0;
    private static int wrong = 0;

    public static void main(String[] args) throws IOException {
        if (Files.exists(DOCUMENT)) document = oneLine(Files.readString(DOCUMENT));
        newObject();
        setting();
        telling();
        counting();
        places();
        chances();
        tents();
        sittersOfKinds();
        getsUp();
        goes();
        bears();
        tape();
        expressions();
        faults();
        openOnes();
        texts();
        minute();
        nights();
        needless();
        howLikely();
        seats();
        forToldWinds();
        redEyes();
        drawnWinds();
        images();
        sheets();
        host();
        System.out.println(wrong == 0 ? sentences + " sentences hold" : wrong + " answers are not as due");
        if (wrong != 0) System.exit(1);
    }

    // ---- helps

    private static String oneLine(String text) {
        return text.replaceAll("\\s+", " ");
    }

    /** What follows is due by these words, which must stand in the document. */
    private static void says(String words) {
        sentence = words;
        sentences++;
        if (document == null || document.contains(words)) return;
        wrong++;
        System.out.println("the document doesn't say: " + words);
    }

    private static void due(String call, long got, long want) {
        if (got == want) return;
        wrong++;
        System.out.println("'" + sentence + "': " + call + " answered " + got + ", due is " + want);
    }

    private static void all(String call, long[] got, long... want) {
        for (int i = 0; i < want.length; i++) due(call + " [" + i + "]", got[i], want[i]);
        due(call + " length", got.length, want.length);
    }

    private static void lay(SmokeGoesTo x, int sheet, int... items) {
        laySort(x, sheet, 0, items);
    }

    private static void laySort(SmokeGoesTo x, int sheet, int sort, int... items) {
        x.sheet(sheet, sort, items.length);
        for (int i = 0; i < items.length; i++) x.cell(sheet, i, items[i]);
    }

    private static void feedAll(SmokeGoesTo x, String text) {
        for (byte letter : text.getBytes(StandardCharsets.ISO_8859_1)) x.feed(letter & 255);
    }

    private static int read(SmokeGoesTo x, String text) {
        feedAll(x, text);
        return x.text();
    }

    private static SmokeGoesTo ruled(String text) {
        SmokeGoesTo x = new SmokeGoesTo();
        due("text of " + text, read(x, text), 1);
        x.force(1);
        return x;
    }

    /** One of a KIND and a NUMBER at a PLACE, where THE SMOKE is, too. */
    private static SmokeGoesTo one(int kind, int number, int place) {
        SmokeGoesTo x = new SmokeGoesTo();
        x.set(0, 0, place);
        x.sitter(kind, number, place);
        return x;
    }

    private static int[] rests(int n) {
        return new int[n];
    }

    private static int[] same(int wind, int n) {
        int[] winds = new int[n];
        java.util.Arrays.fill(winds, wind);
        return winds;
    }

    /** Where THE SMOKE is behind these winds. */
    private static int smoke(SmokeGoesTo x, int... winds) {
        lay(x, 3, winds);
        return x.night(3, 1);
    }

    /** What a NIGHT of these winds tells of one. */
    private static int of(SmokeGoesTo x, int what, int sitter, int... winds) {
        lay(x, 3, winds);
        return x.night(3, what + sitter);
    }

    // ---- the object, what is set and told of it

    private static void newObject() {
        says("`SmokeGoesTo()`: Nobody round the fire.");
        SmokeGoesTo x = new SmokeGoesTo();
        due("SITTERS", x.count(0), 0);
        for (int what = 0; what <= 9; what++) due("told of SITTER 0", x.told(0, what), BAD);
        due("taken", x.taken(0, 0), MISSING);
        lay(x, 0, 0);
        due("COST of all", x.night(0, 0), 0);
        due("COST of SITTER 0", x.night(0, 10), -100);
        says("NONE is -1; NO, where a long is answered, -4611686018427387904.");
        due("NONE", SmokeGoesTo.NONE, -1);
        due("NO", SmokeGoesTo.NO, -4611686018427387904L);
        due("NO of likely", x.likely(9, 0, 0), -4611686018427387904L);
        says("BAD (-2: a number is none such or not as told), STATE (-3), FULL (-4);");
        all("BAD, STATE, FULL", new long[] {SmokeGoesTo.BAD, SmokeGoesTo.STATE, SmokeGoesTo.FULL}, -2, -3, -4);
        says("An object is used for at most 512 calls after it has been made;");
        SmokeGoesTo last = new SmokeGoesTo();
        for (int call = 1; call < 512; call++) last.set(0, 0, call % 8);
        due("the 512th", last.count(1), 511 % 8);
    }

    private static void setting() {
        says("Where THE SMOKE is (what 0; of does not matter, but of 5, 6),");
        int[] ofs = {0, 1, 4, 5, -1, Integer.MIN_VALUE, Integer.MAX_VALUE};
        for (int of : ofs) {
            SmokeGoesTo x = new SmokeGoesTo();
            all("of " + of, new long[] {x.set(0, of, 7), x.set(1, of, 20), x.set(2, of, 10), x.set(3, of, 255),
                x.set(4, of, 1), x.set(5, of, 0), x.set(6, of, 0)}, 0, 30, 30, 0, 0, BAD, BAD);
            all("they became", new long[] {x.count(1), x.count(2), x.count(3), x.count(4), x.count(5)}, 7, 20, 10, 255, 1);
        }
        says("NUMBER (5), the PLACE (6) of a SITTER becomes v: what it was. BAD; STATE: another one sits there.");
        SmokeGoesTo y = new SmokeGoesTo();
        for (int s = 0; s < 5; s++) y.sitter(SITTER, s, s);
        all("of the fifth", new long[] {y.set(5, 4, 9), y.set(6, 4, 7), y.set(5, 4, 9), y.set(6, 4, 7)}, 4, 4, 9, 7);
        all("of a sixth", new long[] {y.set(5, 5, 9), y.set(6, 5, 7)}, BAD, BAD);
        all("of -1", new long[] {y.set(5, -1, 9), y.set(6, -1, 7)}, BAD, BAD);
        all("where another one sits", new long[] {y.set(6, 0, 7), y.set(6, 4, 0), y.set(6, 0, 4)}, STATE, STATE, 0);
        all("what 7, -1", new long[] {y.set(7, 0, 0), y.set(-1, 0, 0)}, BAD, BAD);
    }

    private static void telling() {
        says("Of a SITTER: 0 KIND, 1 NUMBER, 2 the PLACE;");
        SmokeGoesTo x = new SmokeGoesTo();
        for (int s = 0; s < 5; s++) x.sitter(s + 1, 9 - s, 7 - s);
        for (int s = 0; s < 5; s++) {
            all("SITTER " + s, new long[] {x.told(s, 0), x.told(s, 1), x.told(s, 2)}, s + 1, 9 - s, 7 - s);
        }
        says("4 .. 9 whether one GETS UP (1, 0) behind what less 3 MINUTES. BAD.");
        SmokeGoesTo c = one(COUNTER, 0, 0);
        for (int number = 0; number <= 5; number++) {
            c.set(5, 0, number);
            for (int what = 4; what <= 9; what++) {
                due("NUMBER " + number + ", what " + what, c.told(0, what), what - 3 > number ? 1 : 0);
            }
        }
        due("what 9 of a NUMBER 6", c.set(5, 0, 6) + c.told(0, 9), 5);
        due("what 10", c.told(0, 10), BAD);
        due("what -1", c.told(0, -1), BAD);
        due("SITTER 1", c.told(1, 0), BAD);
        due("SITTER -1", c.told(-1, 0), BAD);
    }

    private static void counting() {
        says("How many: 0 SITTERS, 1 where THE SMOKE is, 2 LEFT, 3 RIGHT, 4 TENTS, 5 EDDY, 6 TEXTS, 7 bytes of THE TAPE, "
            + "8 THE RULE. BAD.");
        SmokeGoesTo x = new SmokeGoesTo();
        int[] first = {0, 0, 30, 30, 0, 0, 1, 0, 0};
        for (int what = 0; what < 9; what++) due("at first " + what, x.count(what), first[what]);
        for (int s = 0; s < 5; s++) x.sitter(s, s, s);
        for (int t = 1; t < 6; t++) read(x, "bears1;moves1;heat1;");
        x.force(5);
        x.set(0, 0, 7);
        x.set(1, 0, 0);
        x.set(2, 0, 100);
        x.set(3, 0, 255);
        x.set(4, 0, 1);
        for (int i = 0; i < 160; i++) x.feed(255);
        int[] most = {5, 7, 0, 100, 255, 1, 6, 160, 5};
        for (int what = 0; what < 9; what++) due("at most " + what, x.count(what), most[what]);
        due("what 9", x.count(9), BAD);
        due("what -1", x.count(-1), BAD);
    }

    // ---- Terms 1

    private static void places() {
        says("PLACES 0 .. 7, round: behind 7 comes 0.");
        for (int p = 0; p < 8; p++) {
            SmokeGoesTo x = new SmokeGoesTo();
            due("set(0, 0, " + p + ")", x.set(0, 0, p), 0);
            due("to the right of " + p, smoke(x, 1), p == 7 ? 0 : p + 1);
            due("to the left of " + p, smoke(x, -1), p == 0 ? 7 : p - 1);
            due("eight to the right", smoke(x, same(1, 8)), p);
            due("eight to the left", smoke(x, same(-1, 8)), p);
            due("forty to the right", smoke(x, same(1, 40)), p);
            due("thirty-nine to the left", smoke(x, same(-1, 39)), p == 7 ? 0 : p + 1);
            due("there in 0 MINUTES", x.likely(0, p, 0), 1);
            due("PLACE " + p, x.sitter(0, 0, p), 0);
        }
        SmokeGoesTo x = new SmokeGoesTo();
        due("PLACE 8", x.set(0, 0, 8), BAD);
        due("PLACE -1", x.set(0, 0, -1), BAD);
        says("THE SMOKE is at a PLACE (0 at first).");
        due("count(1)", x.count(1), 0);
    }

    private static void chances() {
        says("LEFT and RIGHT together 100 at most; 30 each at first");
        SmokeGoesTo x = new SmokeGoesTo();
        due("LEFT at first", x.count(2), 30);
        due("RIGHT at first", x.count(3), 30);
        due("LEFT 71 by RIGHT 30", x.set(1, 0, 71), BAD);
        due("LEFT 70 by RIGHT 30", x.set(1, 0, 70), 30);
        due("RIGHT 31 by LEFT 70", x.set(2, 0, 31), BAD);
        due("RIGHT 30 by LEFT 70", x.set(2, 0, 30), 30);
        due("RIGHT 0", x.set(2, 0, 0), 30);
        due("LEFT 100 by RIGHT 0", x.set(1, 0, 100), 70);
        due("LEFT 101 by RIGHT 0", x.set(1, 0, 101), BAD);
        due("RIGHT 1 by LEFT 100", x.set(2, 0, 1), BAD);
        due("RIGHT 0 by LEFT 100", x.set(2, 0, 0), 0);
        due("LEFT 0", x.set(1, 0, 0), 100);
        due("RIGHT 100 by LEFT 0", x.set(2, 0, 100), 0);
        due("RIGHT 101 by LEFT 0", x.set(2, 0, 101), BAD);
        due("LEFT 1 by RIGHT 100", x.set(1, 0, 1), BAD);
        due("LEFT 0 by RIGHT 100", x.set(1, 0, 0), 0);
        due("LEFT -1", x.set(1, 0, -1), BAD);
        due("RIGHT -1", x.set(2, 0, -1), BAD);
        says("LEFT (to the PLACE with 1 less), RIGHT (with 1 more;");
        due("RIGHT 100 from 0", x.likely(1, 1, 0), 1);
        x.set(0, 0, 7);
        due("RIGHT 100 from 7", x.likely(1, 0, 0), 1);
        x.set(2, 0, 0);
        x.set(1, 0, 100);
        due("LEFT 100 from 7", x.likely(1, 6, 0), 1);
        x.set(0, 0, 0);
        due("LEFT 100 from 0", x.likely(1, 7, 0), 1);
        says("30 each at first), else it stays.");
        x.set(1, 0, 0);
        due("LEFT and RIGHT 0", x.likely(8, 0, 0), 1);
        x.set(1, 0, 50);
        x.set(2, 0, 50);
        due("LEFT and RIGHT 50: it never stays", x.likely(1, 0, 0), 0);
        x.set(2, 0, 49);
        due("LEFT 50, RIGHT 49: it stays once of 100", x.likely(1, 0, 1), 100);
    }

    private static void tents() {
        says("TENTS: PLACES (bits; none at first) that shelter.");
        SmokeGoesTo x = new SmokeGoesTo();
        due("none at first", x.count(4), 0);
        due("all", x.set(3, 0, 255), 0);
        due("one more", x.set(3, 0, 256), BAD);
        due("below 0", x.set(3, 0, -1), BAD);
        due("none", x.set(3, 0, 0), 255);
        for (int p = 0; p < 8; p++) {
            SmokeGoesTo y = one(SITTER, 0, p);
            due("no TENT at " + p, of(y, OFTEN, 0, 0), 1);
            y.set(3, 0, 1 << p);
            due("a TENT at " + p, of(y, OFTEN, 0, 0), 0);
            y.set(3, 0, 255 - (1 << p));
            due("TENTS but at " + p, of(y, OFTEN, 0, 0), 1);
        }
        says("EDDY (1, or 0, as at first).");
        due("0 at first", x.count(5), 0);
        due("1", x.set(4, 0, 1), 0);
        due("2", x.set(4, 0, 2), BAD);
        due("-1", x.set(4, 0, -1), BAD);
        due("0", x.set(4, 0, 0), 1);
    }

    private static void sittersOfKinds() {
        says("SITTERS (5 at most, numbered from 0) have a KIND:");
        SmokeGoesTo x = new SmokeGoesTo();
        for (int s = 0; s < 5; s++) {
            due("told of nobody", x.told(s, 0), BAD);
            due("sitter", x.sitter(s, 9 - s, 7 - s), s);
            due("count(0)", x.count(0), s + 1);
        }
        due("a sixth", x.sitter(0, 0, 0), FULL);
        due("five", x.count(0), 5);
        due("told of the fifth", x.told(4, 0), BRAVE);
        due("told of a sixth", x.told(5, 0), BAD);
        says("5 SLEEPER under SITTER; a NUMBER (0 .. 9), sit on a PLACE, no two on one.");
        SmokeGoesTo y = new SmokeGoesTo();
        due("KIND -1", y.sitter(-1, 0, 0), BAD);
        due("KIND 6", y.sitter(6, 0, 0), BAD);
        due("NUMBER -1", y.sitter(0, -1, 0), BAD);
        due("NUMBER 10", y.sitter(0, 10, 0), BAD);
        due("PLACE -1", y.sitter(0, 0, -1), BAD);
        due("PLACE 8", y.sitter(0, 0, 8), BAD);
        due("KIND 5, NUMBER 9, PLACE 7", y.sitter(5, 9, 7), 0);
        due("KIND 0, NUMBER 0, PLACE 0", y.sitter(0, 0, 0), 1);
        due("on 7 sits one", y.sitter(0, 0, 7), STATE);
        due("on 0 sits one", y.sitter(0, 0, 0), STATE);
        due("to 0 from 7", y.set(6, 0, 0), STATE);
        due("to 7 from 0", y.set(6, 1, 7), STATE);
        due("to one's own", y.set(6, 1, 0), 0);
        due("to 6", y.set(6, 0, 6), 7);
        due("7 is free then", y.set(6, 1, 7), 0);
        due("NUMBER to 10", y.set(5, 0, 10), BAD);
        due("NUMBER to -1", y.set(5, 0, -1), BAD);
        due("NUMBER to 0", y.set(5, 0, 0), 9);
        due("NUMBER to 9", y.set(5, 0, 9), 0);
    }

    // ---- what the KINDS do

    /** Behind how many MINUTES in the smoke one of a KIND gets up first, 0 if never in forty. */
    private static int firstUp(int kind, int number) {
        for (int n = 1; n <= 40; n++) {
            if (of(one(kind, number, 3), UPS, 0, rests(n)) > 0) return n;
        }
        return 0;
    }

    private static void getsUp() {
        says("COUNTER: if l is NUMBER and 1, or more;");
        for (int number = 0; number <= 9; number++) {
            SmokeGoesTo x = one(COUNTER, number, 0);
            for (int l = 1; l <= 6; l++) due("NUMBER " + number + ", l " + l, x.told(0, 3 + l), l >= number + 1 ? 1 : 0);
            due("NUMBER " + number + ": at first behind", firstUp(COUNTER, number), number + 1);
        }
        says("BRAVE: if l is even, and as a COUNTER;");
        for (int number = 0; number <= 9; number++) {
            SmokeGoesTo x = one(BRAVE, number, 0);
            for (int l = 1; l <= 6; l++) {
                due("NUMBER " + number + ", l " + l, x.told(0, 3 + l), l % 2 == 0 && l > number ? 1 : 0);
            }
        }
        int[] first = {2, 2, 4, 4, 6, 6, 8, 8, 10, 10};
        for (int number = 0; number <= 9; number++) {
            due("NUMBER " + number + ": at first behind", firstUp(BRAVE, number), first[number]);
        }
        says("GETS UP (whether one does, having been in the smoke for l MINUTES one behind the other, this one, too): "
            + "SITTER: no; MOVER: yes;");
        due("a SITTER in forty", firstUp(SITTER, 0), 0);
        due("a MOVER", firstUp(MOVER, 9), 1);
        says("NEIGHBOUR: as a MOVER;");
        due("a NEIGHBOUR", firstUp(NEIGHBOUR, 9), 1);
        says("SLEEPER: as a SITTER.");
        due("a SLEEPER in forty", firstUp(SLEEPER, 0), 0);
        int[] always = {0, 1, -1, 1, -1, 0};
        for (int kind = 0; kind < 6; kind++) {
            for (int l = 1; l <= 6 && always[kind] >= 0; l++) {
                due("KIND " + kind + ", l " + l, one(kind, 9, 0).told(0, 3 + l), always[kind]);
            }
        }
    }

    private static void goes() {
        says("SITTER: p and 4; MOVER: as a SITTER; COUNTER: as a SITTER; NEIGHBOUR: p and w, but p and 1, if w is 0; "
            + "BRAVE: p and 2; SLEEPER: as a SITTER (all round).");
        for (int p = 0; p < 8; p++) {
            for (int kind = 0; kind < 6; kind++) {
                int far = kind == NEIGHBOUR ? 1 : kind == BRAVE ? 2 : 4;
                due("told(0, 3), KIND " + kind + " at " + p, one(kind, 0, p).told(0, 3), (p + far) % 8);
            }
            due("a MOVER from " + p, of(one(MOVER, 0, p), PLACE, 0, 0), (p + 4) % 8);
            due("a COUNTER from " + p, of(one(COUNTER, 0, p), PLACE, 0, 0), (p + 4) % 8);
            due("a BRAVE from " + p, of(one(BRAVE, 0, p), PLACE, 0, 0, 0), (p + 2) % 8);
            for (int w = -1; w <= 1; w++) {
                SmokeGoesTo x = one(NEIGHBOUR, 0, p);
                x.set(0, 0, (p - w + 8) % 8);
                int to = w == 0 ? p + 1 : p + w;
                due("a NEIGHBOUR from " + p + " by " + w, of(x, PLACE, 0, w), (to + 8) % 8);
            }
        }
        says("3 where one GOES, not having felt where it came from;");
        SmokeGoesTo y = one(NEIGHBOUR, 0, 7);
        y.sitter(0, 0, 0);
        due("whoever sits there", y.told(0, 3), 0);
    }

    /** What one bears of v (told by bears) in each of n MINUTES, in all. */
    private static int borne(int kind, int number, String v, int n) {
        SmokeGoesTo x = ruled("bears " + v + ";moves 0;heat 0;");
        x.sitter(kind, number, 0);
        return of(x, COST, 0, rests(n));
    }

    private static void bears() {
        says("SITTER: v; MOVER: twice a SITTER's; COUNTER: l more than a SITTER; NEIGHBOUR: 1 less than a MOVER; "
            + "BRAVE: half (cut) of a COUNTER's; SLEEPER: 0.");
        int[][] due = {{0, 1, 2, 99}, {0, 2, 4, 198}, {1, 2, 3, 100}, {0, 1, 3, 197}, {0, 1, 1, 50}, {0, 0, 0, 0}};
        int[] told = {0, 1, 2, 99};
        for (int kind = 0; kind < 6; kind++) {
            for (int t = 0; t < 4; t++) {
                due("KIND " + kind + " of " + told[t], borne(kind, 9, "" + told[t], 1), due[kind][t]);
            }
        }
        says("(BEARS 0 at least, in the end.)");
        due("a NEIGHBOUR of 0", borne(NEIGHBOUR, 0, "0", 1), 0);
        due("a NEIGHBOUR of what is below 0", borne(NEIGHBOUR, 0, "-7", 1), 0);
        due("a COUNTER of what is below 0", borne(COUNTER, 9, "-7", 1), 1);
        says("Quotients are cut toward 0.");
        due("a BRAVE of 0: half of 1, of 2, of 3", borne(BRAVE, 9, "0", 3), 0 + 1 + 1);
        due("a BRAVE of 1: half of 2, of 3, of 4", borne(BRAVE, 9, "1", 3), 1 + 1 + 2);
        due("a COUNTER of 99 in nine", borne(COUNTER, 9, "99", 9), 9 * 99 + 45);
        due("a SITTER in forty", borne(SITTER, 0, "99", 40), 40 * 99);
        due("a MOVER of 99, once", borne(MOVER, 0, "99", 40), 198);
    }

    // ---- TEXTS

    private static void tape() {
        says("A TEXT is read from THE TAPE (160 bytes at most).");
        SmokeGoesTo x = new SmokeGoesTo();
        due("empty", x.count(7), 0);
        for (int i = 1; i <= 160; i++) {
            due("byte " + i, x.feed(i % 256), i);
            due("bytes", x.count(7), i);
        }
        due("a byte more", x.feed(32), FULL);
        due("160", x.count(7), 160);
        says("A byte (0 .. 255) comes behind THE TAPE: how many it has.");
        SmokeGoesTo y = new SmokeGoesTo();
        due("0", y.feed(0), 1);
        due("255", y.feed(255), 2);
        due("256", y.feed(256), BAD);
        due("-1", y.feed(-1), BAD);
        due("two", y.count(7), 2);
        due("the byte 0 is one, too", y.text(), -100);
        says("THE TAPE, which is empty then (by a FAULT, too), is a TEXT: its number; -100 less the place of its FAULT.");
        due("empty by a FAULT", y.count(7), 0);
        due("a TEXT", read(y, "bears 1;moves 1;heat 1;"), 1);
        due("empty by a TEXT", y.count(7), 0);
        due("an empty one", y.text(), -100);
        due("160 bytes are a TEXT", read(y, full("heat 1", ";")), 2);
        String[][] ends = {{"heat 1", "x", "159"}, {"heat 1", " ", "160"}, {"heat", "11", "160"}, {"heat", "11111", "155"},
            {"heat", "long", "160"}, {"heat", "lon", "157"}, {"heat 1", "*", "160"}, {"heat 1", "*;", "159"}};
        for (String[] end : ends) {
            due("160 bytes, at last " + end[1], read(new SmokeGoesTo(), full(end[0], end[1])), -100 - Integer.parseInt(end[2]));
        }
        tapesAhead();
        StringBuilder sum = new StringBuilder("bears 1");
        while (sum.length() < 143) sum.append("+1");
        due("160 bytes of few blanks", read(y, sum + ";moves 1;heat 11;"), 3);
        y.force(3);
        y.sitter(0, 0, 0);
        due("what they tell", of(y, COST, 0, 0), 69);
        says("-100 less the place of its FAULT. FULL (ahead of all): no TEXT more has room (THE TAPE stays).");
        due("four", read(y, "bears 1;moves 1;heat 1;"), 4);
        due("five", read(y, "bears 1;moves 1;heat 1;"), 5);
        feedAll(y, "bears");
        due("no sixth, though a FAULT", y.text(), FULL);
        due("THE TAPE stays", y.count(7), 5);
        due("and grows", y.feed(' '), 6);
        due("no sixth", y.text(), FULL);
    }

    /** 160 bytes: a TEXT's two parts, a third one's begin, blanks, its end. */
    private static String full(String begin, String end) {
        String head = "bears 1;moves 1;" + begin;
        return head + "\n".repeat(160 - head.length() - end.length()) + end;
    }

    /** What stood on THE TAPE ahead of its being empty is not read on behind a shorter one. */
    private static void tapesAhead() {
        for (String ahead : new String[] {"1", "g", " ", ";"}) {
            SmokeGoesTo x = new SmokeGoesTo();
            read(x, ahead.repeat(160));
            due("behind " + ahead + ": a NUMBER is last", read(x, "bears 1;moves 1;heat 1"), -100 - 22);
            due("behind " + ahead + ": a WORD is last", read(x, "bears 1;moves 1;heat lon"), -100 - 21);
            due("behind " + ahead + ": a NAME is last", read(x, "bears 1;moves 1;heat long"), -100 - 25);
            due("behind " + ahead + ": a blank is last", read(x, "bears 1;moves 1;heat 1 "), -100 - 23);
            due("behind " + ahead + ": a TEXT", read(x, "bears 1;moves 1;heat 1;"), 1);
        }
    }

    /** What bears tells by an E, 0 .. 99, of one of KIND 0 and NUMBER 0 at PLACE 0 in MINUTE 0. */
    private static int value(String e) {
        return borne(SITTER, 0, e, 1);
    }

    private static void expressions() {
        says("An E is an int (32 bits, wrapping):");
        due("the greatest, and 1 more", value("4096*4096*127+4096*4095+4095+1<0"), 1);
        due("2147483647", value("0<4096*4096*127+4096*4095+4095"), 1);
        due("2147483648 is below 0", value("4096*4096*128<0"), 1);
        due("its - is itself", value("-(4096*4096*128)=4096*4096*128"), 1);
        due("and 1 less is above", value("0<4096*4096*128-1"), 1);
        due("4294967296 is 0", value("4096*4096*256=0"), 1);
        due("4294967297 is 1", value("4096*4096*256+1"), 1);
        due("9999*9999*9999", value("9999*9999*9999=" + plain(9999 * 9999 * 9999)), 1);
        says("of or, and, not, <, = 1 or 0 (what is not 0 is true).");
        String[] ones = {"7 or 0", "0 or -1", "2 or 3", "2 and 5", "-1 and -1", "not 0", "not(1-1)", "0<1", "-1<0",
            "0=0", "7=7", "not not 5", "4096*4096*128 and 1", "4096*4096*128 or 0"};
        for (String e : ones) due(e, value("3*(" + e + ")"), 3);
        String[] none = {"0 or 0", "2 and 0", "0 and 2", "not 7", "not -1", "1<1", "1<0", "1=0", "0=-1", "not 4096",
            "4096*4096*256 or 0", "4096*4096*256 and 1"};
        for (String e : none) due(e, value("3*(" + e + ")+1"), 1);
        says("bears: what a MINUTE in the smoke costs (0 .. 99, else the bound).");
        int[][] bound = {{-4096, 0}, {-1, 0}, {0, 0}, {1, 1}, {98, 98}, {99, 99}, {100, 99}, {9999, 99}};
        for (int[] b : bound) due("bears " + b[0], value("" + b[0]), b[1]);
        due("bears of the least int", value("4096*4096*128"), 0);
        due("bears of the greatest int", value("4096*4096*128-1"), 99);
        says("moves (place as one gets up): what that costs (0 .. 99, else the bound).");
        for (int[] b : bound) {
            SmokeGoesTo x = ruled("bears 0;moves " + b[0] + ";heat 0;");
            x.sitter(MOVER, 0, 0);
            due("moves " + b[0], of(x, COST, 0, 0), b[1]);
        }
        SmokeGoesTo placed = ruled("bears 0;moves place*10+smoke;heat 0;");
        placed.sitter(MOVER, 0, 3);
        placed.set(0, 0, 3);
        due("of the PLACE that is left", of(placed, COST, 0, 0), 33);
        says("heat: what a MINUTE out of the smoke costs (0 .. 99, else the bound).");
        for (int[] b : bound) {
            SmokeGoesTo x = ruled("bears 50;moves 50;heat " + b[0] + ";");
            x.sitter(SITTER, 0, 4);
            due("heat " + b[0], of(x, COST, 0, 0), b[1]);
            due("heat " + b[0] + " twice", of(x, COST, 0, 0, 0), 2 * b[1]);
        }
        names();
    }

    /** An E of an int: NUMBERS are 4 digits at most. */
    private static String plain(int v) {
        long rest = Math.abs((long) v);
        String e = "(" + rest / 100000000 + "*9999+" + rest / 100000000 + ")*9999+(" + rest / 100000000 + "*9999+"
            + rest / 100000000 + ")+" + rest % 100000000 / 10000 + "*9999+" + rest % 100000000 / 10000 + "+" + rest % 10000;
        return v < 0 ? "-(" + e + ")" : e;
    }

    private static void names() {
        says("Of a SITTER in a MINUTE: place: one's PLACE; smoke: where THE SMOKE is; minute; long: l as it is then "
            + "(0 of heat); number: NUMBER; sitter: the number.");
        SmokeGoesTo x = ruled("bears minute;moves 0;heat minute;");
        x.sitter(SLEEPER, 0, 0);
        x.sitter(SITTER, 0, 7);
        due("MINUTE 0", of(x, COST, 1, 0), 0);
        due("MINUTES 0, 1", of(x, COST, 1, 0, 0), 1);
        due("MINUTES 0 .. 39", of(x, COST, 1, rests(40)), 780);
        SmokeGoesTo l = ruled("bears long;moves long*10;heat 30+long;");
        l.sitter(BRAVE, 0, 0);
        due("l 1, of a BRAVE", of(l, COST, 0, 0), 1);
        due("l 2, and as it gets up", of(l, COST, 0, 0, 0), 1 + 2 + 20);
        due("l 0 of heat", of(l, COST, 0, 0, 0, 0), 1 + 2 + 20 + 30);
        due("l 0 of heat behind a MINUTE in it", of(l, COST, 0, 0, 1), 1 + 30);
        SmokeGoesTo s = ruled("bears 0;moves 0;heat smoke*10+place;");
        s.sitter(SITTER, 0, 7);
        due("smoke 0, place 7", of(s, COST, 0, 0), 7);
        due("smoke 1 by a wind", of(s, COST, 0, 1), 17);
        s.set(0, 0, 1);
        due("smoke 0 by a wind", of(s, COST, 0, -1), 7);
        SmokeGoesTo n = ruled("bears 0;moves 0;heat number*10+sitter;");
        for (int i = 0; i < 5; i++) n.sitter(SITTER, 9 - i * 2, 7 - i);
        for (int i = 0; i < 5; i++) due("SITTER " + i, of(n, COST, i, 0), (9 - i * 2) * 10 + i);
        says("THE RULE, is: bears 5 + long ; moves 3 ; heat 0 ;");
        due("bears by THE RULE", of(one(SITTER, 0, 0), COST, 0, rests(40)), 40 * 5 + 820);
        due("moves by THE RULE", of(one(MOVER, 0, 0), COST, 0, 0), 15);
        due("heat by THE RULE", of(one(MOVER, 0, 0), COST, 0, rests(40)), 15);
    }

    private static void faultAt(String text, int place) {
        SmokeGoesTo x = new SmokeGoesTo();
        due(text, read(x, text), -100 - place);
        due("TEXTS behind it", x.count(6), 1);
    }

    private static void stands(String text) {
        due(text, read(new SmokeGoesTo(), text), 1);
    }

    private static void faults() {
        says("TOKENS, each as long as can be: WORDS (a .. z), NUMBERS (as many digits as stand there, 4 at most), "
            + "SIGNS ( ) ; + - * < = ; blanks (32, 10) may stand between.");
        stands("bears1;moves2;heat3;");
        stands("\n bears\n1 ;\n\nmoves 1\n;heat 1; \n");
        stands("bears1and 2or 3;moves-1;heat(1);");
        stands("bears 9999;moves 0000;heat 0;");
        faultAt("bears 10000;moves 1;heat 1;", 6);
        faultAt("bears 00001;moves 1;heat 1;", 6);
        faultAt("bears 123456789;moves 1;heat 1;", 6);
        faultAt("bears 99 99;moves 1;heat 1;", 9);
        faultAt("bears 1 long;moves 1;heat 1;", 8);
        faultAt("bears 1long;moves 1;heat 1;", 7);
        faultAt("bears notlong;moves 1;heat 1;", 6);
        faultAt("bears long er;moves 1;heat 1;", 11);
        faultAt("bears longer;moves 1;heat 1;", 6);
        faultAt("bearslong;moves 1;heat 1;", 0);
        for (int blank : new int[] {0, 9, 11, 12, 13, 31, 33, 127, 160, 255}) {
            faultAt("bears " + (char) blank + "1;moves 1;heat 1;", 6);
        }
        says("also of a byte that begins none, a WORD that is neither KEY nor NAME, a NUMBER that is too long,");
        String signs = "();+-*<=";
        for (int c = 0; c < 256; c++) {
            boolean begins = c == 32 || c == 10 || c >= '0' && c <= '9' || c >= 'a' && c <= 'z' || signs.indexOf(c) >= 0;
            if (begins) continue;
            faultAt((char) c + "bears 1;moves 1;heat 1;", 0);
            faultAt("bears " + (char) c + ";moves 1;heat 1;", 6);
            faultAt("bears 1" + (char) c + ";moves 1;heat 1;", 7);
            faultAt("bears 1+2<" + (char) c + ";moves 1;heat 1;", 10);
            faultAt("bears 1;moves 1;heat 1;" + (char) c, 23);
        }
        for (String word : new String[] {"a", "z", "plac", "places", "smok", "minut", "minutes", "lon", "numbe", "numbers",
            "sitte", "sitters", "bear", "move", "hea", "o", "an", "no", "ora", "andy", "nota", "xor", "placesmoke",
            "longz", "zlong", "alonga"}) {
            faultAt("bears " + word + ";moves 1;heat 1;", 6);
        }
        says("NAMES are place smoke minute long number sitter; bears, moves, heat, or, and, not are KEYS.");
        for (String name : new String[] {"place", "smoke", "minute", "long", "number", "sitter"}) {
            stands("bears " + name + ";moves " + name + ";heat " + name + ";");
            faultAt(name + " 1;moves 1;heat 1;", 0);
        }
        for (String key : new String[] {"bears", "moves", "heat", "or", "and"}) {
            faultAt("bears " + key + ";moves 1;heat 1;", 6);
            faultAt("bears 1+" + key + ";moves 1;heat 1;", 8);
        }
        says("FAULT: the place of the first byte of the first TOKEN that can't stand there (the text's size, if it ends "
            + "too early),");
        String whole = "bears 1+2*(3-place)<4 or not 5 and 6;moves 1;heat 1;";
        stands(whole);
        for (int size = 0; size < whole.length(); size++) {
            boolean inWord = size > 0 && Character.isLetter(whole.charAt(size - 1)) && Character.isLetter(whole.charAt(size));
            if (!inWord) faultAt(whole.substring(0, size), size);
        }
        faultAt(" \n ", 3);
        faultAt("bears 1;moves 1;heat 1 \n ", 25);
        faultAt("bears 1;moves 1;heat 1;;", 23);
        faultAt("bears 1;moves 1;heat 1; \n1", 25);
        faultAt("bears 1;moves 1;heat 1;bears 1;moves 1;heat 1;", 23);
        says("TEXT: bears E ; moves E ; heat E ; E: AND { or AND }.");
        faultAt("moves 1;bears 1;heat 1;", 0);
        faultAt("bears 1;heat 1;moves 1;", 8);
        faultAt("bears 1;moves 1;moves 1;", 16);
        faultAt("bears 1 moves 1;heat 1;", 8);
        faultAt("bears;moves 1;heat 1;", 5);
        says("NOT: not NOT, or SUM, perhaps < or = and a SUM.");
        faultAt("bears 1<2<3;", 9);
        faultAt("bears 1<2=3;", 9);
        faultAt("bears 1=2<3;", 9);
        faultAt("bears 1<;", 8);
        faultAt("bears <1;", 6);
        faultAt("bears 1<not 1;", 8);
        faultAt("bears 1+not 1;", 8);
        stands("bears (1<2)<(3=4);moves 1;heat 1;");
        stands("bears 1+(not 1);moves 1;heat 1;");
        due("not of a whole comparison", value("not 1=2"), 1);
        says("SUM: TERM { + or - TERM }. TERM: ONE { * ONE }. ONE: a NUMBER, a NAME, - ONE, ( E ).");
        faultAt("bears +1;", 6);
        faultAt("bears *1;", 6);
        faultAt("bears 1++1;", 8);
        faultAt("bears 1**1;", 8);
        for (String sign : new String[] {"+", "-", "*", "<", "=", "(", " or ", " and "}) {
            faultAt("bears 1" + sign + ";moves 1;heat 1;", sign.equals("(") ? 7 : 7 + sign.length());
        }
        for (String ahead : new String[] {"not ", "-", "(", "(-", "not not ", "1+(", "1 or not "}) {
            faultAt("bears " + ahead + ";moves 1;heat 1;", 6 + ahead.length());
        }
        faultAt("bears 1+-;", 9);
        faultAt("bears ();", 7);
        faultAt("bears (1;", 8);
        faultAt("bears 1);", 7);
        faultAt("bears )1;", 6);
        due("from the left", value("20-5-4"), 11);
        due("* ahead of -", value("20-2*3"), 14);
        due("- ONE, then *", value("9+-2*3"), 3);
        due("1--1", value("1--1"), 2);
    }

    private static void openOnes() {
        says("a ( , a not, a - ahead of a ONE while 5 of these are open (a ( till its ) , not and - till what they "
            + "belong to ends).");
        due("five (", value("(((((7)))))"), 7);
        faultAt("bears ((((((7))))));", 11);
        due("five not", value("not not not not not 0"), 1);
        faultAt("bears not not not not not not 0;", 26);
        due("five -", value("6+-----1"), 5);
        faultAt("bears -----(1);", 11);
        faultAt("bears ------1;", 11);
        due("- of a SUM is none of these", value("9-----1"), 8);
        due("one - of a SUM and five more", value("9------1"), 10);
        faultAt("bears 1-------1;", 13);
        due("five of three sorts", value("not(-(not 0))"), 0);
        due("five of three sorts, full", value("not(-(not 0))+0"), 0);
        faultAt("bears not(-(not(0)));", 15);
        faultAt("bears not(-(not-0));", 15);
        faultAt("bears not(-(not not 0));", 16);
        due("a ( till its )", value("(((((1)))))+(((((2)))))*(((((3)))))"), 7);
        due("a ( till its ), inside", value("((((1)+(2))))"), 3);
        due("a fifth again behind a )", value("(((((1)+(2)))))"), 3);
        faultAt("bears (((((1+(2)))));", 13);
        due("a - till its ONE ends", value("9+-1+(((((2)))))"), 10);
        due("a - till its ONE ends, ahead of *", value("-1*(((((2-4)))))*1+0*-----1"), 2);
        faultAt("bears -(((((1)))));", 11);
        due("a not till its SUM ends: a ( in it", value("not((((0))))"), 1);
        faultAt("bears not(((((0)))));", 13);
        faultAt("bears not 1=(((((0)))));", 16);
        due("a not that ended, or", value("not 1 or(((((1)))))"), 1);
        due("a not that ended, and", value("not 0 and(((((1)))))"), 1);
        due("five not that ended", value("not not not not not 1 or(((((0)))))or not not not not not 0"), 1);
        faultAt("bears not 0 and((((((1))))));", 20);
    }

    private static void texts() {
        says("There are 6 TEXTS at most, TEXT 0 with them.");
        SmokeGoesTo x = new SmokeGoesTo();
        due("one at first", x.count(6), 1);
        for (int t = 1; t < 6; t++) {
            due("force ahead of it", x.force(t), BAD);
            due("TEXT " + t, read(x, "bears " + t + ";moves 1;heat 1;"), t);
            due("TEXTS", x.count(6), t + 1);
        }
        due("a seventh", read(x, "bears 1;moves 1;heat 1;"), FULL);
        due("six", x.count(6), 6);
        says("A TEXT is THE RULE: which was. BAD.");
        x.sitter(SITTER, 0, 0);
        for (int t = 1; t < 6; t++) {
            due("which was", x.force(t), t - 1);
            due("bears by TEXT " + t, of(x, COST, 0, 0), t);
        }
        due("6", x.force(6), BAD);
        due("-1", x.force(-1), BAD);
        due("TEXT 5 is THE RULE", x.count(8), 5);
        due("TEXT 0", x.force(0), 5);
        due("bears by TEXT 0", of(x, COST, 0, 0), 6);
    }

    // ---- Terms 2: a MINUTE, a NIGHT

    private static void minute() {
        says("If EDDY is 1, and anybody got up in the MINUTE ahead, it then turns 1 towards the PLACE on which the first "
            + "of those (by numbers) sits now, the shorter way round (to the right, if both are as long; not at all, "
            + "if it is there).");
        int[] toward = {0, 1, 1, 1, 1, -1, -1, -1};
        for (int far = 0; far < 8; far++) {
            for (int p = 0; p < 8; p++) {
                SmokeGoesTo x = one(MOVER, 0, p);
                x.set(4, 0, 1);
                int sits = (p + 4) % 8;
                if (far != 4) {
                    // who would go to p and 4 goes on to the PLACE that is far of p, as the ones between are taken
                    int between = (far - 4 + 8) % 8;
                    if (between > 4) continue;
                    for (int i = 0; i < between; i++) x.sitter(SLEEPER, 0, (p + 4 + i) % 8);
                    sits = (p + far) % 8;
                }
                due("sits now", of(x, PLACE, 0, 0), sits);
                due("far " + far + " of " + p, smoke(x, 0, 0), (p + toward[far] + 8) % 8);
            }
        }
        SmokeGoesTo x = one(BRAVE, 0, 7);
        x.set(4, 0, 1);
        due("to 1 from 7: 0", smoke(x, 0, 0, 0), 0);
        due("to 1 from 0: there, by a wind", smoke(x, 0, 0, 1), 1);
        due("to 1 from 6: 7", smoke(x, 0, 0, -1), 7);
        due("nobody got up in MINUTE 1", smoke(x, 0, 0), 7);
        due("the MINUTE ahead alone", smoke(x, 0, 0, 0, 0), 0);
        x.set(4, 0, 0);
        due("EDDY 0", smoke(x, 0, 0, 0), 7);

        says("one is IN THE SMOKE, if it is at one's PLACE, which has no TENT: l is 1 more, BEARS comes to one's COST; "
            + "else l is 0, heat comes to one's COST.");
        SmokeGoesTo l = one(COUNTER, 2, 0);
        due("two, one out, two: not three", of(l, UPS, 0, 0, 0, 1, -1, 0), 0);
        due("two, one out, three", of(l, UPS, 0, 0, 0, 1, -1, 0, 0), 1);
        due("the longest l of none", of(l, LONGEST, 0, 1, 0), 0);
        due("the longest l of one", of(l, LONGEST, 0, 0, 1), 1);
        due("the longest l of 2 and 1", of(l, LONGEST, 0, 0, 0, 1, -1), 2);
        due("the longest l of 1 and 2", of(l, LONGEST, 0, 0, 1, -1, 0), 2);
        SmokeGoesTo tent = ruled("bears 7;moves 7;heat 2;");
        tent.sitter(MOVER, 0, 0);
        tent.set(3, 0, 1);
        due("heat in a TENT", of(tent, COST, 0, 0, 0), 4);
        due("a MOVER in a TENT stays", of(tent, UPS, 0, 0, 0), 0);

        says("one goes to the first PLACE without a SITTER, from where one GOES on, round to the right (the one just left "
            + "is one of these); l is 0 then.");
        SmokeGoesTo m = one(MOVER, 0, 1);
        int[] to = {5, 6, 7, 0, 1};
        for (int others = 0; others < 5; others++) {
            due(others + " others: to", of(m, PLACE, 0, 0), to[others]);
            if (others < 4) m.sitter(SLEEPER, 0, to[others]);
        }
        due("the one just left: it got up", of(m, UPS, 0, 0), 1);
        due("the one just left: and again", of(m, UPS, 0, 0, 0), 2);
        due("the one just left: moves each time", of(m, COST, 0, 0, 0), 30);
        due("l was 0 then", of(m, LONGEST, 0, 0, 0), 1);
        SmokeGoesTo back = one(NEIGHBOUR, 0, 1);
        back.set(0, 0, 2);
        back.sitter(SLEEPER, 0, 0);
        due("a NEIGHBOUR to 0, which is taken: the one just left", of(back, PLACE, 0, -1), 1);
        SmokeGoesTo over = one(NEIGHBOUR, 0, 6);
        over.sitter(SLEEPER, 0, 7);
        over.sitter(SLEEPER, 0, 0);
        due("round: 7 and 0 are taken", of(over, PLACE, 0, 0), 1);
    }

    private static void nights() {
        says("A NIGHT by winds of a SHEET: COST of all (what 0), where THE SMOKE is at last (1), how often anybody got up "
            + "(2), NEEDLESS ones (3);");
        SmokeGoesTo two = one(MOVER, 0, 0);
        two.sitter(MOVER, 0, 7);
        lay(two, 0, 0, -1, -1);
        all("two got up", new long[] {two.night(0, 0), two.night(0, 1), two.night(0, 2), two.night(0, 3)}, 30, 6, 2, 2);
        lay(two, 0);
        all("no MINUTE", new long[] {two.night(0, 0), two.night(0, 1), two.night(0, 2), two.night(0, 3)}, 0, 0, 0, 0);
        says("winds by a SHEET (n: how many it tells; 40 at most): below 0: -1, above 0: 1.");
        SmokeGoesTo x = one(SLEEPER, 0, 0);
        due("none", of(x, OFTEN, 0), 0);
        due("one", of(x, OFTEN, 0, 0), 1);
        due("forty", of(x, OFTEN, 0, rests(40)), 40);
        due("forty, the longest l", of(x, LONGEST, 0, rests(40)), 40);
        int[][] ints = {{-1, 7}, {1, 1}, {0, 0}, {-2, 7}, {2, 1}, {Integer.MIN_VALUE, 7}, {Integer.MAX_VALUE, 1}};
        for (int[] w : ints) {
            laySort(x, 2, 2, w[0]);
            due("by " + w[0], x.night(2, 1), w[1]);
        }
        says("from all as it is now, every l being 0, nobody having got up ahead;");
        SmokeGoesTo c = one(COUNTER, 1, 0);
        lay(c, 0, 0);
        for (int i = 0; i < 3; i++) due("sit: l is 0 again", c.sit(0), 7);
        due("so nobody got up", c.told(0, 2), 0);
        SmokeGoesTo e = one(MOVER, 0, 0);
        e.set(4, 0, 1);
        lay(e, 0, 0);
        due("sit: a MOVER gets up", e.sit(0), 15);
        due("no EDDY by who got up in a NIGHT ahead", smoke(e, 0), 0);
        says("MINUTES 0 .. n less 1,");
        SmokeGoesTo m = ruled("bears 0;moves 0;heat minute;");
        m.sitter(SITTER, 0, 4);
        due("0 .. 39", of(m, COST, 0, rests(40)), 780);
        due("0", of(m, COST, 0, 0), 0);
        says("of SITTER what modulo 10: 10 .. COST, 20 .. how often IN THE SMOKE, 30 .. the longest l, 40 .. how often "
            + "got up, 50 .. the PLACE at last. -100: SHEET, what, no such SITTER; it is missing.");
        SmokeGoesTo n = new SmokeGoesTo();
        lay(n, 0, 0);
        for (int s = 0; s <= 5; s++) {
            for (int what = 0; what <= 70; what++) {
                boolean told = what < 4 || what >= 10 && what < 60 && what % 10 < s;
                due("of " + s + ": night(0, " + what + ")", n.night(0, what) == -100 ? 0 : 1, told ? 1 : 0);
            }
            n.sitter(s, 0, s + 1);
        }
        due("SHEET 3, missing", n.night(3, 0), -100);
        due("SHEET 4", n.night(4, 0), -100);
        due("SHEET -1", n.night(-1, 0), -100);
        says("That truly (THE SMOKE, PLACES are as then): COST of all.");
        SmokeGoesTo t = one(MOVER, 0, 7);
        t.sitter(SITTER, 0, 2);
        lay(t, 0);
        due("no MINUTE", t.sit(0), 0);
        all("all stay", new long[] {t.count(1), t.told(0, 2), t.told(1, 2)}, 7, 7, 2);
        lay(t, 0, 0, 1, 1, 1);
        due("four", t.sit(0), 15 + 6);
        all("as then", new long[] {t.count(1), t.told(0, 2), t.told(1, 2)}, 2, 3, 2);
        due("four again", t.sit(0), 6 + 15);
        all("as then", new long[] {t.count(1), t.told(0, 2), t.told(1, 2)}, 5, 7, 2);
        says("COST of all. BAD; -11.");
        all("SHEET 4, -1, a missing one", new long[] {t.sit(4), t.sit(-1), t.sit(1)}, BAD, BAD, MISSING);
    }

    private static void needless() {
        says("NEEDLESS: how often anybody got up, there was a MINUTE more, and in that one THE SMOKE, having turned, "
            + "wasn't at the PLACE that was left.");
        SmokeGoesTo x = one(MOVER, 0, 0);
        int[][] rows = {{0}, {0, 0}, {0, 1}, {0, -1}, {0, 1, -1}, {0, 0, 1}, {1, -1}, {1, -1, 1}, {}};
        int[] needless = {0, 0, 1, 1, 1, 0, 0, 1, 0};
        for (int r = 0; r < rows.length; r++) {
            lay(x, 0, rows[r]);
            due("row " + r, x.night(0, 3), needless[r]);
        }
        x.set(4, 0, 1);
        lay(x, 0, 0, 0);
        due("an EDDY turns it", x.night(0, 3), 1);
        lay(x, 0, 0, -1);
        due("an EDDY turns it farther", x.night(0, 3), 1);
        SmokeGoesTo n = one(NEIGHBOUR, 0, 0);
        n.set(4, 0, 1);
        lay(n, 0, 0, -1);
        due("an EDDY turns it back", n.night(0, 3), 0);
        lay(n, 0, same(1, 40));
        n.set(4, 0, 0);
        n.set(0, 0, 7);
        due("it is there each MINUTE, and none is more behind the last", n.night(0, 2), 40);
        due("so 39 of 40", n.night(0, 3), 39);
    }

    // ---- how likely

    private static void howLikely() {
        says("LIKELY: in n MINUTES (0 .. 8) by CHANCES alone (no EDDY) how likely THE SMOKE is at a PLACE.");
        SmokeGoesTo x = new SmokeGoesTo();
        long no = SmokeGoesTo.NO;
        due("n -1", x.likely(-1, 0, 0), no);
        due("n 0", x.likely(0, 0, 0), 1);
        due("n 0, below", x.likely(0, 0, 1), 1);
        due("n 0, elsewhere", x.likely(0, 7, 0), 0);
        due("n 0, elsewhere, below", x.likely(0, 7, 1), 1);
        due("n 3, PLACE 4: too far", x.likely(3, 4, 0), 0);
        due("n 4, PLACE 4: 2 * 30 to the fourth", x.likely(4, 4, 0), 81);
        due("n 4, PLACE 4, below", x.likely(4, 4, 1), 5000);
        due("n 8, round both ways", x.likely(8, 0, 1), 12500000);
        due("n 9", x.likely(9, 0, 0), no);
        due("PLACE 7", x.likely(1, 7, 0), 3);
        due("PLACE 7, below", x.likely(1, 7, 1), 10);
        due("PLACE 8", x.likely(1, 8, 0), no);
        due("PLACE -1", x.likely(1, -1, 0), no);
        due("part 2", x.likely(1, 0, 2), no);
        due("part -1", x.likely(1, 0, -1), no);
        x.set(4, 0, 1);
        x.set(3, 0, 255);
        x.sitter(MOVER, 0, 0);
        due("no EDDY, whoever sits there", x.likely(4, 4, 0), 81);
        says("LIKELY: part 0 above, 1 below the line, in lowest terms. NO: none such.");
        x.set(1, 0, 0);
        x.set(2, 0, 1);
        due("1 of 100 to the seventh", x.likely(7, 7, 0), 1);
        due("1 of 100 to the seventh, below", x.likely(7, 7, 1), 100000000000000L);
        due("8 * 99 of 100 to the eighth", x.likely(8, 7, 0), 99);
        due("8 * 99 of 100 to the eighth, below", x.likely(8, 7, 1), 1250000000000000L);
        due("once round, or 99 to the eighth", x.likely(8, 0, 0), 4613723472139601L);
        due("once round, or 99 to the eighth, below", x.likely(8, 0, 1), 5000000000000000L);
        says("MEAN of a PLACE: LIKELY in 1, 2, .. n MINUTES (n 1 .. 8), together.");
        SmokeGoesTo m = new SmokeGoesTo();
        due("n 0", m.mean(0, 0, 0), no);
        due("n 1", m.mean(1, 0, 0), 2);
        due("n 1, below", m.mean(1, 0, 1), 5);
        due("n 4, PLACE 4", m.mean(4, 4, 0), 81);
        due("n 4, PLACE 4, below", m.mean(4, 4, 1), 5000);
        due("n 3, PLACE 4", m.mean(3, 4, 0), 0);
        due("n 3, PLACE 4, below", m.mean(3, 4, 1), 1);
        due("n 9", m.mean(9, 0, 0), no);
        due("PLACE 8", m.mean(1, 8, 0), no);
        due("PLACE -1", m.mean(1, -1, 0), no);
        due("part 2", m.mean(1, 0, 2), no);
        due("part -1", m.mean(1, 0, -1), no);
        m.set(1, 0, 0);
        m.set(2, 0, 100);
        due("n 8: once round", m.mean(8, 0, 0), 1);
        due("n 7: not yet", m.mean(7, 0, 0), 0);
        m.set(2, 0, 0);
        due("n 8: it stays: above 1", m.mean(8, 0, 0), 8);
    }

    private static void seats() {
        says("SEAT: the PLACE without SITTER (or one's own) for which that is least, of those without a TENT; of like ones "
            + "the first; NONE.");
        SmokeGoesTo x = one(SITTER, 0, 0);
        due("of 2 .. 6 the first", x.seat(0, 1), 2);
        x.sitter(SITTER, 0, 2);
        due("2 is another's", x.seat(0, 1), 3);
        due("2 is one's own", x.seat(1, 1), 2);
        x.set(3, 0, 1 << 3);
        due("3 has a TENT", x.seat(0, 1), 4);
        x.set(3, 0, 255 - 1 - 4);
        due("one's own alone", x.seat(0, 1), 0);
        due("one's own alone, of the other one", x.seat(1, 1), 2);
        x.set(3, 0, 255 - 4);
        due("NONE: another's alone", x.seat(0, 1), NONE);
        x.set(3, 0, 255);
        due("NONE: TENTS all round", x.seat(1, 8), NONE);
        x.set(3, 0, 127);
        due("7 alone", x.seat(1, 8), 7);
        x.set(3, 0, 0);
        x.set(1, 0, 0);
        x.set(2, 0, 0);
        due("all but where THE SMOKE is are like", x.seat(0, 8), 1);
        says("GAP: of all ways to seat all SITTERS on PLACES 0 .. 7 that by which MEANS (n as told) of these PLACES, of "
            + "one with a TENT 0, together, are least; of like ones the first (by SITTER 0's PLACE, ..).");
        SmokeGoesTo g = new SmokeGoesTo();
        due("of nobody", g.gap(1, 0), BAD);
        for (int s = 0; s < 5; s++) g.sitter(SITTER, 0, 7 - s);
        for (int s = 0; s < 5; s++) due("five on 2 .. 6", g.gap(1, s), 2 + s);
        due("a sixth", g.gap(1, 5), BAD);
        due("n 0", g.gap(0, 0), BAD);
        due("n 9", g.gap(9, 0), BAD);
        g.set(3, 0, 255);
        for (int s = 0; s < 5; s++) due("five, TENTS all round", g.gap(8, s), s);
        g.set(3, 0, 1);
        int[] places = {0, 2, 3, 4, 5};
        for (int s = 0; s < 5; s++) due("five, a TENT where THE SMOKE is", g.gap(1, s), places[s]);
        g.set(3, 0, 128);
        for (int s = 0; s < 5; s++) due("five, a TENT is like a MEAN of 0", g.gap(1, s), 2 + s);
        g.set(3, 0, 2);
        int[] tented = {1, 2, 3, 4, 5};
        for (int s = 0; s < 5; s++) due("five, a TENT at 1", g.gap(1, s), tented[s]);
        g.set(3, 0, 0);
        for (int s = 0; s < 5; s++) due("five by eight MINUTES", g.gap(8, s), 2 + s);
        g.set(0, 0, 4);
        int[] round = {0, 1, 2, 6, 7};
        for (int s = 0; s < 5; s++) due("five, THE SMOKE at 4", g.gap(1, s), round[s]);
        due("PLACES stay", g.told(0, 2), 7);
    }

    // ---- for told winds

    private static void forToldWinds() {
        says("STAY: SITTERS (bits) each of whom, were one alone of KIND 0, would have less COST by that NIGHT.");
        SmokeGoesTo x = new SmokeGoesTo();
        lay(x, 0, 0);
        due("nobody", x.stay(0), 0);
        SmokeGoesTo y = ruled("bears 3*minute;moves 3-minute;heat 3;");
        y.sitter(MOVER, 0, 0);
        lay(y, 0, 0);
        due("3 by moves: 0 is less", y.stay(0), 1);
        lay(y, 0, 0, 0);
        due("3 and 3: 3 is less", y.stay(0), 1);
        lay(y, 0, 0, 0, 0);
        due("3, 3, 3: 0, 3, 6 is as much", y.stay(0), 0);
        lay(y, 0);
        due("no MINUTE", y.stay(0), 0);
        SmokeGoesTo five = ruled("bears 1;moves 1;heat 0;");
        for (int s = 0; s < 5; s++) five.sitter(MOVER, 0, s);
        lay(five, 0, 0);
        due("the first", five.stay(0), 1);
        five.set(0, 0, 4);
        due("the fifth", five.stay(0), 16);
        lay(five, 0, 0, -1, -1, -1, -1);
        due("all five", five.stay(0), 31);
        says("STAY. BAD: SHEET; -11.");
        all("SHEET 4, -1, a missing one", new long[] {five.stay(4), five.stay(-1), five.stay(1)}, BAD, BAD, MISSING);
        says("EDDIES. -100000: SHEET; it is missing.");
        all("SHEET 4, -1, a missing one", new long[] {five.eddies(4), five.eddies(-1), five.eddies(1)},
            -100000, -100000, -100000);
        says("EDDIES: COST of all with EDDY 1 less that with EDDY 0.");
        SmokeGoesTo e = one(MOVER, 0, 0);
        lay(e, 0);
        due("no MINUTE", e.eddies(0), 0);
        lay(e, 0, 0);
        due("one MINUTE", e.eddies(0), 0);
        e.sitter(SITTER, 0, 1);
        lay(e, 0, 0, 0);
        due("two MINUTES", e.eddies(0), 6);
        lay(e, 0, 0, 1);
        due("below 0", e.eddies(0), -6);
        e.set(4, 0, 1);
        due("EDDY does not matter", e.eddies(0), -6);
        due("EDDY stays", e.count(5), 1);
        says("BEST of one: the PLACE without SITTER (or one's own) from which, did one sit there at first, one's COST "
            + "would be least; of like ones the first.");
        SmokeGoesTo b = one(SITTER, 0, 7);
        lay(b, 0);
        due("no MINUTE: all are like", b.best(0, 0, 0), 0);
        lay(b, 0, 0, 1, 1, 1, 1, 1, 1);
        due("6 alone isn't smoked", b.best(0, 0, 0), 6);
        due("COST at 6", b.best(0, 0, 1), 0);
        b.sitter(SITTER, 0, 6);
        due("6 is another's: the first", b.best(0, 0, 0), 0);
        due("COST at 0", b.best(0, 0, 1), 6);
        due("6 is one's own", b.best(0, 1, 0), 6);
        b.set(3, 0, 128);
        due("7 has a TENT", b.best(0, 0, 0), 7);
        says("BEST (what 0), COST then (1). BAD: SHEET, SITTER, what; -11.");
        due("what 2", b.best(0, 0, 2), BAD);
        due("what -1", b.best(0, 0, -1), BAD);
        due("SITTER 2", b.best(0, 2, 0), BAD);
        due("SITTER -1", b.best(0, -1, 0), BAD);
        due("SHEET 4", b.best(4, 0, 0), BAD);
        due("SHEET -1", b.best(-1, 0, 0), BAD);
        due("a missing one", b.best(1, 0, 0), MISSING);
        due("a missing one, of SITTER 2", b.best(1, 2, 0), BAD);
    }

    // ---- red eyes

    private static void redEyes() {
        says("EYES: a SHEET tells how often each SITTER was IN THE SMOKE in n MINUTES (n 0 .. 5): WINDS: in how many of "
            + "all rows of n winds (-1, 0, 1 each) it would be so;");
        SmokeGoesTo x = one(SITTER, 0, 0);
        x.set(3, 0, 1);
        lay(x, 0, 0);
        int[] rows = {1, 3, 9, 27, 81, 243};
        for (int n = 0; n <= 5; n++) due("all rows of " + n, x.eyes(0, n, -1), rows[n]);
        due("n 6", x.eyes(0, 6, -1), -100);
        due("n -1", x.eyes(0, -1, -1), -100);
        x.set(3, 0, 0);
        lay(x, 0, 5);
        due("five in five", x.eyes(0, 5, -1), 1);
        due("five in four", x.eyes(0, 4, -1), 0);
        lay(x, 0, 6);
        due("six in five", x.eyes(0, 5, -1), 0);
        says("the first of them (by the first MINUTE's, -1 ahead of 0, then 1, ..), as digits (1, 2, 3 for -1, 0, 1);");
        lay(x, 0, 0);
        due("the first row of five", x.eyes(0, 5, -2), 11111);
        due("the first of one", x.eyes(0, 1, -2), 1);
        lay(x, 0, 1);
        due("1: 0 alone", x.eyes(0, 1, -2), 2);
        due("1 of two: -1, 1", x.eyes(0, 2, -2), 13);
        lay(x, 0, 5);
        due("it rests for five", x.eyes(0, 5, -2), 22222);
        SmokeGoesTo last = new SmokeGoesTo();
        for (int p = 1; p <= 5; p++) last.sitter(SLEEPER, 0, p);
        lay(last, 0, 1, 1, 1, 1, 1);
        due("the last row of all alone", last.eyes(0, 5, -1), 1);
        due("the last row of all", last.eyes(0, 5, -2), 33333);
        says("EYES: WINDS (what NONE), the first as digits (-2; 0: n is 0; NONE: there are none), KINDS of a SITTER "
            + "(what: which).");
        lay(x, 0, 0);
        due("n is 0", x.eyes(0, 0, -2), 0);
        due("the row of none", x.eyes(0, 0, -1), 1);
        lay(x, 0, 2);
        due("there are none", x.eyes(0, 1, -2), NONE);
        due("none of none", x.eyes(0, 0, -1), 0);
        lay(x, 0, -1);
        due("below 0 is never so", x.eyes(0, 5, -1), 0);
        due("nor by a KIND", x.eyes(0, 5, 0), 0);
        laySort(x, 0, 2, 65536);
        due("an int is not cut", x.eyes(0, 5, -1), 0);
        laySort(x, 0, 1, 65536 + 1);
        due("a short is cut as it is laid", x.eyes(0, 1, -2), 2);
        due("what -3", x.eyes(0, 1, -3), -100);
        due("what 1 of one SITTER", x.eyes(0, 1, 1), -100);
        says("KINDS (bits) of one by which in any of them.");
        SmokeGoesTo k = one(SITTER, 1, 0);
        lay(k, 0, 1);
        due("once: all KINDS", k.eyes(0, 5, 0), ALL_KINDS);
        lay(k, 0, 2);
        due("twice in two: no MOVER", k.eyes(0, 2, 0), ALL_KINDS - (1 << MOVER));
        lay(k, 0, 3);
        due("thrice in three: SITTER, SLEEPER, a NEIGHBOUR by 233", k.eyes(0, 3, 0),
            1 << SITTER | 1 << NEIGHBOUR | 1 << SLEEPER);
        k.set(5, 0, 2);
        due("thrice by NUMBER 2: COUNTER and BRAVE, too", k.eyes(0, 3, 0), ALL_KINDS - (1 << MOVER));
        due("KIND stays", k.told(0, 0), SITTER);
        SmokeGoesTo edge = new SmokeGoesTo();
        edge.sitter(SITTER, 0, 7);
        lay(edge, 0, 1);
        due("by the first row alone", edge.eyes(0, 1, 0), ALL_KINDS);
        edge.set(6, 0, 1);
        due("by the last row alone", edge.eyes(0, 1, 0), ALL_KINDS);
        for (int p = 2; p <= 6; p++) {
            edge.set(6, 0, p);
            due("by no row of one, at " + p, edge.eyes(0, 1, 0), 0);
        }
        says("it is missing; its size isn't how many SITTERS there are.");
        for (int size = 0; size <= 6; size++) {
            k.sheet(1, 0, size);
            due("size " + size + " of one SITTER", k.eyes(1, 1, -1) == -100 ? 0 : 1, size == 1 ? 1 : 0);
            last.sheet(1, 0, size);
            due("size " + size + " of five", last.eyes(1, 1, -1) == -100 ? 0 : 1, size == 5 ? 1 : 0);
        }
        due("missing", k.eyes(2, 1, -1), -100);
        SmokeGoesTo nobody = new SmokeGoesTo();
        nobody.sheet(0, 0, 0);
        due("nobody, a row of 0", nobody.eyes(0, 5, -1), 243);
        due("nobody is SITTER 0", nobody.eyes(0, 5, 0), -100);
        films();
    }

    private static void films() {
        says("A SHEET truly becomes how often each was IN THE SMOKE by winds of another one (bytes): how many SITTERS. "
            + "BAD: both; -11: of the other one.");
        SmokeGoesTo x = new SmokeGoesTo();
        lay(x, 0, 0, 1);
        due("nobody", x.film(1, 0), 0);
        due("a row of 0", x.cell(1, 0, 1), OUTSIDE);
        x.sitter(SLEEPER, 0, 0);
        x.sheet(0, 2, 40);
        due("forty MINUTES", x.film(1, 0), 1);
        x.sitter(SLEEPER, 0, 1);
        x.sheet(2, 0, 2);
        due("40 is kept: cut to no less", x.copy(1, 0, 2, 0, 1), 1);
        due("of bytes", x.sitters(1, 0, 0, 0), 0);
        due("not of ints", x.sitters(1, 2, 0, 0), UNLIKE);
        for (int s = 2; s < 5; s++) x.sitter(SLEEPER, 0, s);
        lay(x, 0, 0, 1, 0, 1, 1);
        due("five", x.film(1, 0), 5);
        due("each as often", x.eyes(1, 5, -2) > 0 ? 1 : 0, 1);
        lay(x, 2, 1, 2, 1, 1, 0);
        due("by hand", x.eyes(2, 5, -1), x.eyes(1, 5, -1));
        due("the fifth of five", x.cell(1, 4, 0), 1);
        due("a sixth", x.cell(1, 5, 0), OUTSIDE);
        due("SHEET 4", x.film(4, 0), BAD);
        due("by SHEET 4", x.film(0, 4), BAD);
        due("SHEET -1", x.film(-1, 0), BAD);
        due("by SHEET -1", x.film(0, -1), BAD);
        due("by a missing one", x.film(0, 3), MISSING);
        due("to a missing one", x.film(3, 0), 5);
    }

    private static void drawnWinds() {
        says("each z = z * 1103515245 + 12345 (an int; SEED at first), q (z >>> 9) % 100: -1, if q is below LEFT, 1, if not, "
            + "but below LEFT and RIGHT together, else 0: COST of all.");
        SmokeGoesTo x = ruled("bears(minute=0)*(sitter+1);moves 0;heat 0;");
        x.sitter(SITTER, 0, 7);
        x.sitter(SITTER, 0, 0);
        x.sitter(SITTER, 0, 1);
        // by seed 0 the first z is 12345: q is 24
        int[][] chances = {{25, 0, 1}, {24, 0, 2}, {24, 1, 3}, {23, 1, 2}, {23, 2, 3}, {0, 24, 2}, {0, 25, 3}, {100, 0, 1},
            {0, 100, 3}, {0, 0, 2}};
        for (int[] c : chances) {
            x.set(1, 0, 0);
            x.set(2, 0, c[1]);
            x.set(1, 0, c[0]);
            due("seed 0, LEFT " + c[0] + ", RIGHT " + c[1], x.drawn(0), c[2]);
        }
        // z of seed -1 is below 0, and >>> brings no sign
        int z = -1 * 1103515245 + 12345;
        int q = (z >>> 9) % 100;
        x.set(2, 0, 0);
        x.set(1, 0, q);
        due("seed -1: not below q itself", x.drawn(-1), 2);
        x.set(1, 0, q + 1);
        due("seed -1: below", x.drawn(-1), 1);
        SmokeGoesTo ten = new SmokeGoesTo();
        ten.set(1, 0, 0);
        ten.set(2, 0, 0);
        ten.sitter(SITTER, 0, 0);
        for (int seed : new int[] {0, 1, -1, Integer.MAX_VALUE, Integer.MIN_VALUE}) {
            due("ten MINUTES by seed " + seed, ten.drawn(seed), 50 + 55);
        }
        ten.set(2, 0, 100);
        due("ten to the right", ten.drawn(5), 6);
        drawnPaths();
        says("IN n seeds (1 .. 20), SEED and each 1 more (an int): of these those by which nobody gets up.");
        long no = SmokeGoesTo.NO;
        SmokeGoesTo c = new SmokeGoesTo();
        c.sitter(COUNTER, 0, 2);
        due("n 0", c.chance(0, 0, 0), no);
        due("n 21", c.chance(0, 21, 0), no);
        due("n -1", c.chance(0, -1, 0), no);
        due("part 2", c.chance(0, 1, 2), no);
        due("part -1", c.chance(0, 1, -1), no);
        int[] seeds = {0, -19, Integer.MAX_VALUE, Integer.MAX_VALUE - 19, Integer.MAX_VALUE - 10, Integer.MIN_VALUE};
        for (int seed : seeds) {
            for (int n = 1; n <= 20; n++) {
                if (n > 2 && n < 19) continue;
                long quiet = 0;
                for (int i = 0; i < n; i++) quiet += c.chance(seed + i, 1, 0);
                due("IN " + n + " seeds from " + seed, c.chance(seed, n, 0) * n, quiet * c.chance(seed, n, 1));
                due("in lowest terms", gcd(c.chance(seed, n, 0), c.chance(seed, n, 1)), 1);
            }
        }
        c.set(3, 0, 4);
        due("all", c.chance(9, 20, 0), 1);
        due("all, below", c.chance(9, 20, 1), 1);
        SmokeGoesTo up = one(MOVER, 0, 0);
        up.set(1, 0, 0);
        up.set(2, 0, 0);
        due("none", up.chance(9, 20, 0), 0);
        due("none, below", up.chance(9, 20, 1), 1);
    }

    /** All ten q of some seeds, and where THE SMOKE goes by them. */
    private static void drawnPaths() {
        int[] seeds = {0, 1, -1, Integer.MAX_VALUE, Integer.MIN_VALUE, 12345};
        int[][] qs = {{24, 19, 87, 94, 19, 74, 9, 55, 6, 39}, {27, 16, 78, 1, 43, 18, 75, 23, 34, 14},
            {28, 14, 89, 86, 3, 30, 51, 87, 79, 64}, {24, 18, 93, 82, 7, 26, 47, 83, 75, 68},
            {28, 15, 83, 90, 23, 70, 13, 51, 2, 43}, {19, 87, 94, 19, 74, 9, 55, 6, 39, 37}};
        SmokeGoesTo x = ruled("bears 0;moves 0;heat smoke*minute;");
        x.set(3, 0, 255);
        x.sitter(SITTER, 0, 0);
        int[][] chances = {{30, 30}, {20, 60}, {0, 55}, {75, 0}, {87, 13}};
        for (int[] c : chances) {
            x.set(1, 0, 0);
            x.set(2, 0, c[1]);
            x.set(1, 0, c[0]);
            for (int s = 0; s < seeds.length; s++) {
                int smoke = 0;
                int cost = 0;
                for (int m = 0; m < 10; m++) {
                    int q = qs[s][m];
                    smoke = smoke + (q < c[0] ? 7 : q < c[0] + c[1] ? 1 : 0) & 7;
                    cost += smoke * m;
                }
                due("drawn(" + seeds[s] + ") by LEFT " + c[0] + ", RIGHT " + c[1], x.drawn(seeds[s]), cost);
            }
        }
    }

    private static long gcd(long a, long b) {
        return b == 0 ? a : gcd(b, a % b);
    }

    private static void images() {
        says("All that it keeps is as in THE IMAGE: how many SITTERS. STATE: there is none.");
        SmokeGoesTo x = new SmokeGoesTo();
        due("none", x.back(), STATE);
        due("of nobody", x.image(), 0);
        for (int s = 0; s < 5; s++) x.sitter(s, s, s);
        x.set(0, 0, 7);
        due("five go", x.back(), 0);
        due("nobody", x.count(0), 0);
        due("nobody is told of", x.told(0, 0), BAD);
        due("where THE SMOKE was", x.count(1), 0);
        for (int s = 0; s < 5; s++) due("all have room again", x.sitter(5 - s, 9, 7 - s), s);
        due("of five", x.image(), 5);
        due("full again", x.sitter(0, 0, 0), FULL);
        due("back at once", x.back(), 5);
        due("full still", x.sitter(0, 0, 0), FULL);
        says("AN IMAGE is kept: how many SITTERS.");
        SmokeGoesTo again = new SmokeGoesTo();
        for (int s = 0; s < 5; s++) {
            due("image", again.image(), s);
            again.sitter(SITTER, 0, s);
        }
        due("the last one is kept", again.back(), 4);
        due("and still", again.back(), 4);
        due("the fifth's PLACE is free", again.sitter(SITTER, 0, 4), 4);
        says("AN IMAGE keeps where THE SMOKE is, CHANCES, TENTS, EDDY, NUMBERS, PLACES of all, THE RULE (SITTERS that came "
            + "since go).");
        SmokeGoesTo k = one(COUNTER, 4, 6);
        k.set(1, 0, 0);
        k.set(2, 0, 100);
        k.set(3, 0, 255);
        k.set(4, 0, 1);
        read(k, "bears 1;moves 1;heat 1;");
        k.force(1);
        k.image();
        k.set(0, 0, 0);
        k.set(2, 0, 0);
        k.set(1, 0, 100);
        k.set(3, 0, 0);
        k.set(4, 0, 0);
        k.set(5, 0, 0);
        k.set(6, 0, 1);
        k.force(0);
        k.sitter(SITTER, 0, 6);
        due("back", k.back(), 1);
        all("as kept", new long[] {k.count(0), k.count(1), k.count(2), k.count(3), k.count(4), k.count(5), k.count(8),
            k.told(0, 0), k.told(0, 1), k.told(0, 2)}, 1, 6, 0, 100, 255, 1, 1, COUNTER, 4, 6);
        due("TEXTS stay", k.count(6), 2);
        k.feed(1);
        k.sheet(0, 0, 1);
        due("back again", k.back(), 1);
        due("THE TAPE stays", k.count(7), 1);
        due("SHEETS stay", k.cell(0, 0, 1), 1);
    }

    // ---- Terms 3, the host

    private static void sheets() {
        says("SHEETS 0 .. 3 are rows of numbers, or missing (as all are at first): of sort 0 bytes, 1 shorts, 2 ints.");
        SmokeGoesTo x = new SmokeGoesTo();
        for (int s = 0; s < 4; s++) due("missing at first", x.cell(s, 0, 1), MISSING);
        for (int s = 0; s < 4; s++) {
            for (int sort = 0; sort < 3; sort++) {
                due("sheet(" + s + ", " + sort + ", 1)", x.sheet(s, sort, 1), 1);
                for (int as = 0; as < 3; as++) due("of sort " + sort, x.sitters(s, as, 0, 0), as == sort ? 0 : UNLIKE);
            }
        }
        due("SHEET 4", x.sheet(4, 0, 1), BAD);
        due("SHEET -1", x.sheet(-1, 0, 1), BAD);
        due("sort 3", x.sheet(0, 3, 1), BAD);
        due("sort -2", x.sheet(0, -2, 1), BAD);
        says("A SHEET becomes a row of n of a sort, all 0, or missing (sort -1: n does not matter): 1. BAD: no such SHEET, "
            + "sort; n above 40; -14.");
        for (int sort = 0; sort < 3; sort++) {
            due("n 0", x.sheet(0, sort, 0), 1);
            due("item 0 of none", x.cell(0, 0, 1), OUTSIDE);
            due("n 40", x.sheet(0, sort, 40), 1);
            due("item 39", x.cell(0, 39, 1), 1);
            due("item 40", x.cell(0, 40, 1), OUTSIDE);
            due("n 41", x.sheet(0, sort, 41), BAD);
            due("n -1", x.sheet(0, sort, -1), NEGATIVE);
            due("the row stays", smokeBy(x, 0), 1);
            due("n 40 again", x.sheet(0, sort, 40), 1);
            due("all 0", smokeBy(x, 0), 0);
        }
        for (int n : new int[] {-1, 41, 0, Integer.MIN_VALUE, Integer.MAX_VALUE}) {
            x.sheet(0, 0, 1);
            due("missing, n " + n, x.sheet(0, -1, n), 1);
            due("it is", x.cell(0, 0, 1), MISSING);
            due("missing again, n " + n, x.sheet(0, -1, n), 1);
        }
    }

    private static int smokeBy(SmokeGoesTo x, int sheet) {
        return x.night(sheet, 1);
    }

    private static void host() {
        says("Item i of a SHEET becomes v (of bytes, shorts its lowest 8, 16 bits): 1.");
        SmokeGoesTo x = new SmokeGoesTo();
        int[][] values = {{1, 1, 1, 1}, {127, 1, 1, 1}, {128, 7, 1, 1}, {255, 7, 1, 1}, {256, 0, 1, 1}, {257, 1, 1, 1},
            {32767, 7, 1, 1}, {32768, 0, 7, 1}, {65535, 7, 7, 1}, {65536, 0, 0, 1}, {65537, 1, 1, 1},
            {Integer.MAX_VALUE, 7, 7, 1}, {0, 0, 0, 0}, {-1, 7, 7, 7}, {-128, 7, 7, 7}, {-129, 1, 7, 7}, {-256, 0, 7, 7},
            {-32768, 0, 7, 7}, {-32769, 7, 1, 7}, {-65536, 0, 0, 7}, {Integer.MIN_VALUE, 0, 0, 7}};
        for (int sort = 0; sort < 3; sort++) {
            x.sheet(0, sort, 1);
            for (int[] v : values) {
                due("cell(0, 0, " + v[0] + ") of sort " + sort, x.cell(0, 0, v[0]), 1);
                due("its sign", smokeBy(x, 0), v[1 + sort]);
            }
        }
        due("item -1", x.cell(0, -1, 1), OUTSIDE);
        due("item 1 of 1", x.cell(0, 1, 1), OUTSIDE);
        copies();
        says("from one on, three by three (as of sitter()), n of them (0 .. 5): how many came (others are left out).");
        SmokeGoesTo five = new SmokeGoesTo();
        laySort(five, 0, 1, 0, 0, 0, 1, 1, 1, 2, 2, 2, 3, 3, 3, 4, 4, 4);
        due("n 6", five.sitters(0, 1, 0, 6), BAD);
        due("n -1", five.sitters(0, 1, 0, -1), BAD);
        due("n 0", five.sitters(0, 1, 0, 0), 0);
        due("nobody came", five.count(0), 0);
        due("n 5", five.sitters(0, 1, 0, 5), 5);
        for (int s = 0; s < 5; s++) {
            all("SITTER " + s, new long[] {five.told(s, 0), five.told(s, 1), five.told(s, 2)}, s, s, s);
        }
        due("full: n 1 is left out", five.sitters(0, 1, 0, 1), 0);
        SmokeGoesTo left = new SmokeGoesTo();
        left.sheet(0, 2, 40);
        int[] row = {6, 0, 1, -1, 0, 1, 0, 10, 1, 0, -1, 1, 0, 0, 8, 0, 0, -1, 0, 0, 0, 0, 0, 0, 5, 9, 7};
        for (int i = 0; i < row.length; i++) left.cell(0, i, row[i]);
        due("each is left out for another cause", left.sitters(0, 2, 0, 5), 0);
        due("of -1, of all 0 twice, and of the last", left.sitters(0, 2, 15, 4), 2);
        all("who came", new long[] {left.told(0, 0), left.told(0, 2), left.told(1, 0), left.told(1, 1), left.told(1, 2)},
            0, 0, 5, 9, 7);
        says("BAD: no such SHEET, sort, n; -13; -11; -12: what stood ahead came.");
        SmokeGoesTo y = new SmokeGoesTo();
        laySort(y, 0, 0, 9, 1, 2, 3, 2, 0, 5, 0, 0);
        due("a third is wanted: 7, 8 of 9, and 9", y.sitters(0, 0, 1, 3), OUTSIDE);
        due("two stood ahead", y.count(0), 2);
        all("they came", new long[] {y.told(0, 0), y.told(0, 1), y.told(0, 2), y.told(1, 0), y.told(1, 1), y.told(1, 2)},
            1, 2, 3, 2, 0, 5);
        due("from 9, the size", y.sitters(0, 0, 9, 1), OUTSIDE);
        due("from 9, none", y.sitters(0, 0, 9, 0), 0);
        due("from 6: the last three", y.sitters(0, 0, 6, 1), 1);
        due("from 7", y.sitters(0, 0, 7, 1), OUTSIDE);
        due("from -1", y.sitters(0, 0, -1, 1), OUTSIDE);
        due("from -3: none stood ahead", y.sitters(0, 0, -3, 2), OUTSIDE);
        due("three still", y.count(0), 3);
        says("A SITTER taken for one of KIND k (0 .. 5), or one under that one (also by others between): the NUMBER. "
            + "BAD: k; -11: no such SITTER; -13.");
        int[] under = {1, 3, 5, 11, 21, 33};
        for (int kind = 0; kind < 6; kind++) {
            for (int number = 0; number <= 9; number += 9) {
                SmokeGoesTo t = one(kind, number, 0);
                for (int k = 0; k < 6; k++) {
                    due("KIND " + kind + " taken for " + k, t.taken(0, k), (under[kind] >> k & 1) == 1 ? number : UNLIKE);
                }
                due("k 6", t.taken(0, 6), BAD);
                due("k -1", t.taken(0, -1), BAD);
                due("SITTER 1", t.taken(1, 0), MISSING);
                due("SITTER -1", t.taken(-1, 0), MISSING);
            }
        }
    }

    /** The signs of a SHEET's items, as digits 1, 2, 3 for below 0, 0, above; the SHEET is undone by that. */
    private static long signs(SmokeGoesTo x, int sheet, int n) {
        long digits = 0;
        for (int i = 0; i < n; i++) {
            int all = smokeBy(x, sheet);
            x.cell(sheet, i, 0);
            int turned = all - smokeBy(x, sheet) + 8 & 7;
            digits = digits * 10 + (turned == 7 ? 1 : turned + 2);
        }
        return digits;
    }

    private static void copies() {
        says("n numbers of a SHEET, from item i on, come to another one's item j on (as they were): n.");
        SmokeGoesTo x = new SmokeGoesTo();
        for (int sort = 0; sort < 3; sort++) {
            laySort(x, 0, sort, 1, -1, 0, 1, -1);
            laySort(x, 1, sort, 0, 0, 0);
            due("the last three", x.copy(0, 2, 1, 0, 3), 3);
            due("they came", signs(x, 1, 3), 231);
            due("one to the last", x.copy(0, 0, 1, 2, 1), 1);
            due("it came", signs(x, 1, 3), 223);
            due("all to itself", x.copy(0, 0, 0, 0, 5), 5);
            due("to itself, to the right", x.copy(0, 0, 0, 1, 4), 4);
            due("as they were", signs(x, 0, 5), 33123);
            laySort(x, 0, sort, 1, -1, 0, 1, -1);
            due("to itself, to the left", x.copy(0, 1, 0, 0, 4), 4);
            due("as they were", signs(x, 0, 5), 12311);
        }
        says("-13: they are of unlike sorts; -12 (also with n below 0).");
        laySort(x, 0, 0, 1, -1, 0, 1, -1);
        laySort(x, 1, 0, 0, 0, 0);
        due("n -1", x.copy(0, 1, 1, 1, -1), OUTSIDE);
        due("n 0 from the size to the size", x.copy(0, 5, 1, 3, 0), 0);
        due("n 0 from behind the size", x.copy(0, 6, 1, 0, 0), OUTSIDE);
        due("n 0 to behind the size", x.copy(0, 0, 1, 4, 0), OUTSIDE);
        due("n 4 to three", x.copy(0, 0, 1, 0, 4), OUTSIDE);
        due("n 3 from the third of five", x.copy(0, 2, 1, 0, 3), 3);
        due("n 3 from the fourth of five", x.copy(0, 3, 1, 0, 3), OUTSIDE);
        due("n 2 to the second of three", x.copy(0, 0, 1, 1, 2), 2);
        due("n 2 to the third of three", x.copy(0, 0, 1, 2, 2), OUTSIDE);
        due("i -1", x.copy(0, -1, 1, 0, 1), OUTSIDE);
        due("j -1", x.copy(0, 0, 1, -1, 1), OUTSIDE);
        due("i and n beyond an int", x.copy(0, 2, 1, 0, Integer.MAX_VALUE), OUTSIDE);
        due("j and n beyond an int", x.copy(0, 0, 1, Integer.MAX_VALUE, 1), OUTSIDE);
        due("the row is as the last ones left it", signs(x, 1, 3), 231);
        x.sheet(0, 0, 40);
        x.sheet(1, 0, 40);
        x.cell(0, 39, 1);
        due("forty", x.copy(0, 0, 1, 0, 40), 40);
        due("forty came", smokeBy(x, 1), 1);
        due("forty-one", x.copy(0, 0, 1, 0, 41), OUTSIDE);
        x.sheet(1, 1, 40);
        due("unlike", x.copy(0, 0, 1, 0, 1), UNLIKE);
        due("unlike, n 0", x.copy(0, 0, 1, 0, 0), UNLIKE);
    }
}
