import java.nio.charset.StandardCharsets;
import java.util.ArrayList;
import java.util.List;

/**
 * Each refusal that a call's words name, and the first of them where several hold. Behind each refused
 * call everything that an object can be asked is asked, and is as on an object that was spared the call.
 */
public final class SmokeGoesToRefusals {
    private static final int BAD = SmokeGoesTo.BAD, STATE = SmokeGoesTo.STATE, FULL = SmokeGoesTo.FULL;
    private static final int MISSING = -11, OUTSIDE = -12, UNLIKE = -13, NEGATIVE = -14;
    private static final int NO_ANSWER = -100, NO_EDDIES = -100000;
    private static final long NO = SmokeGoesTo.NO;

    private interface Call {
        long of(SmokeGoesTo x);
    }

    /** A call with one of its numbers left open. */
    private interface OpenCall {
        long of(SmokeGoesTo x, int v);
    }

    private interface Build {
        void on(SmokeGoesTo x);
    }

    /** An object that can be made again and again, and what it answers. */
    private static final class Scene {
        private final Build build;
        private final List<Long> answers;

        Scene(Build build) {
            this.build = build;
            answers = probe(make());
        }

        SmokeGoesTo make() {
            SmokeGoesTo x = new SmokeGoesTo();
            build.on(x);
            return x;
        }
    }

    private static int wrong = 0;
    private static int refused = 0;
    private static int promise = 0;
    private static Scene empty, evening, full, tapeFull;

    public static void main(String[] args) {
        empty = new Scene(x -> { });
        evening = new Scene(SmokeGoesToRefusals::buildEvening);
        full = new Scene(SmokeGoesToRefusals::buildFull);
        tapeFull = new Scene(SmokeGoesToRefusals::buildTapeFull);
        probeSees();
        Runnable[] all = {
            SmokeGoesToRefusals::set, SmokeGoesToRefusals::sitter, SmokeGoesToRefusals::told,
            SmokeGoesToRefusals::feed, SmokeGoesToRefusals::text, SmokeGoesToRefusals::force,
            SmokeGoesToRefusals::night, SmokeGoesToRefusals::sit, SmokeGoesToRefusals::likely,
            SmokeGoesToRefusals::mean, SmokeGoesToRefusals::seat, SmokeGoesToRefusals::gap,
            SmokeGoesToRefusals::stay, SmokeGoesToRefusals::eddies, SmokeGoesToRefusals::best,
            SmokeGoesToRefusals::eyes, SmokeGoesToRefusals::film, SmokeGoesToRefusals::drawn,
            SmokeGoesToRefusals::chance, SmokeGoesToRefusals::image, SmokeGoesToRefusals::back,
            SmokeGoesToRefusals::count, SmokeGoesToRefusals::sheet, SmokeGoesToRefusals::cell,
            SmokeGoesToRefusals::copy, SmokeGoesToRefusals::sitters, SmokeGoesToRefusals::taken,
        };
        promise = 1;
        for (Runnable each : all) {
            promise++;
            each.run();
        }
        System.out.println(wrong == 0 ? refused + " refused calls changed nothing" : wrong + " answers are not as due");
        if (wrong != 0) System.exit(1);
    }

    // ---- scenes

    private static void feedAll(SmokeGoesTo x, String text) {
        for (byte letter : text.getBytes(StandardCharsets.ISO_8859_1)) x.feed(letter & 255);
    }

    private static void lay(SmokeGoesTo x, int sheet, int sort, int... items) {
        x.sheet(sheet, sort, items.length);
        for (int i = 0; i < items.length; i++) x.cell(sheet, i, items[i]);
    }

    /**
     * Four SITTERS, three TEXTS, a TAPE that wants one more byte, an IMAGE of a time ahead; SHEET 0 of bytes,
     * 1 of shorts, 2 of ints, 3 missing.
     */
    private static void buildEvening(SmokeGoesTo x) {
        x.sitter(1, 3, 1);
        x.sitter(3, 0, 2);
        feedAll(x, "bears long*3;moves 7;heat 1;");
        x.text();
        x.force(1);
        x.set(0, 0, 5);
        x.image();
        feedAll(x, "bears 9-minute;moves place;heat sitter;");
        x.text();
        x.force(2);
        x.sitter(2, 1, 4);
        x.sitter(4, 1, 7);
        x.set(0, 0, 3);
        x.set(1, 0, 25);
        x.set(2, 0, 35);
        x.set(3, 0, 1 << 6);
        x.set(4, 0, 1);
        feedAll(x, "bears 1+1;moves 2;heat 3");
        lay(x, 0, 0, 0, 1, 0, -1, -1, 1);
        lay(x, 1, 1, 1, -1, 0, 0);
        lay(x, 2, 2, 1, 0, 0, 2);
    }

    /** Five SITTERS, six TEXTS, a TAPE that is a TEXT but for its last byte. */
    private static void buildFull(SmokeGoesTo x) {
        for (int s = 0; s < 5; s++) x.sitter(s, s, s);
        for (int t = 1; t < 6; t++) {
            feedAll(x, "bears" + t + ";moves1;heat1;");
            x.text();
        }
        x.force(5);
        feedAll(x, "bears 1;moves 2;heat 3");
        lay(x, 0, 0, 0, 1, 1);
        lay(x, 1, 1, 0, 0, 0, 0, 0);
        x.sheet(3, 2, 40);
    }

    private static void buildTapeFull(SmokeGoesTo x) {
        x.sitter(0, 0, 0);
        feedAll(x, "bears 8;moves 2;heat 3;");
        for (int i = 23; i < 160; i++) x.feed(32);
        lay(x, 0, 0, 0, 1);
    }

    // ---- all that can be asked

    private static List<Long> probe(SmokeGoesTo x) {
        List<Long> all = new ArrayList<>();
        probeFire(x, all);
        for (int sheet = 0; sheet < 4; sheet++) probeSheet(x, sheet, all);
        for (int p = 0; p < 8; p++) all.add(x.likely(8, p, 0));
        probeItems(x, all);
        x.sheet(3, 0, 3);
        for (int t = 0; t < 6; t++) {
            all.add((long) x.force(t));
            for (int s = 0; s < 5; s++) all.add((long) x.night(3, 10 + s));
        }
        all.add((long) x.feed(';'));
        all.add((long) x.text());
        all.add((long) x.force(x.count(6) - 1));
        for (int s = 0; s < 5; s++) all.add((long) x.night(3, 10 + s));
        all.add((long) x.back());
        probeFire(x, all);
        return all;
    }

    private static void probeFire(SmokeGoesTo x, List<Long> all) {
        for (int what = 0; what < 9; what++) all.add((long) x.count(what));
        for (int s = 0; s < 5; s++) {
            for (int what = 0; what < 5; what++) all.add((long) x.told(s, what));
        }
    }

    /** Its sort, its size, and what a NIGHT by it answers. */
    private static void probeSheet(SmokeGoesTo x, int sheet, List<Long> all) {
        for (int sort = 0; sort < 3; sort++) all.add((long) x.sitters(sheet, sort, 0, 0));
        all.add((long) sizeOf(x, sheet));
        for (int what = 0; what < 4; what++) all.add((long) x.night(sheet, what));
        for (int s = 0; s < 5; s++) {
            for (int what = 10; what < 60; what += 20) all.add((long) x.night(sheet, what + s));
        }
    }

    private static int sizeOf(SmokeGoesTo x, int sheet) {
        int low = 0;
        int high = 40;
        while (low < high) {
            int middle = (low + high + 1) / 2;
            if (x.copy(sheet, 0, sheet, 0, middle) == middle) low = middle;
            else high = middle - 1;
        }
        return low;
    }

    /** The sign of each of the first items: where THE SMOKE goes, if it stands in item 0, too. */
    private static void probeItems(SmokeGoesTo x, List<Long> all) {
        x.set(4, 0, 0);
        for (int sheet = 0; sheet < 4; sheet++) {
            int size = Math.min(7, sizeOf(x, sheet));
            for (int i = size - 1; i >= 0; i--) {
                all.add((long) x.copy(sheet, i, sheet, 0, 1));
                all.add((long) x.night(sheet, 1));
            }
        }
    }

    /** A probe that tells nothing would let all pass. */
    private static void probeSees() {
        Call[] changes = {x -> x.set(0, 0, 4), x -> x.set(1, 0, 24), x -> x.set(2, 0, 34), x -> x.set(3, 0, 128),
            x -> x.set(4, 0, 0), x -> x.set(5, 3, 2), x -> x.set(6, 0, 0), x -> x.sitter(0, 0, 0), x -> x.feed(32 + 1),
            x -> x.text(), x -> x.force(0), x -> x.sit(0), x -> x.film(3, 0), x -> x.film(1, 0), x -> x.image(),
            x -> x.back(), x -> x.sheet(3, 0, 0), x -> x.sheet(0, -1, 0), x -> x.sheet(1, 2, 4),
            x -> x.sheet(2, 2, 5), x -> x.sheet(2, 2, 4), x -> x.cell(0, 5, -1), x -> x.cell(2, 1, 1),
            x -> x.copy(0, 0, 0, 5, 1), x -> x.sitters(2, 2, 0, 1)};
        for (int c = 0; c < changes.length; c++) {
            SmokeGoesTo x = evening.make();
            changes[c].of(x);
            if (!probe(x).equals(evening.answers)) continue;
            wrong++;
            System.out.println("change " + c + " is not seen");
        }
    }

    // ---- the checks

    private static void refuses(Scene scene, String call, long want, Call of) {
        SmokeGoesTo x = scene.make();
        long got = of.of(x);
        refused++;
        if (got != want) {
            wrong++;
            System.out.println("promise " + promise + ": " + call + " answered " + got + ", due is " + want);
            return;
        }
        List<Long> after = probe(x);
        if (after.equals(scene.answers)) return;
        wrong++;
        int at = 0;
        while (after.get(at).equals(scene.answers.get(at))) at++;
        System.out.println("promise " + promise + ": " + call + " changed answer " + at + " from "
            + scene.answers.get(at) + " to " + after.get(at));
    }

    /** The call is refused with each number outside of low .. high, the nearest ones and far ones. */
    private static void outside(Scene scene, String call, int low, int high, long want, OpenCall of) {
        int[] values = {low - 1, high + 1, low - 2, high + 2, Integer.MIN_VALUE, Integer.MAX_VALUE, high + 256,
            high + 65536, low - 256, Integer.MIN_VALUE + high, Integer.MIN_VALUE + low};
        for (int v : values) {
            if (v >= low && v <= high) continue;
            refuses(scene, call.replace("?", Integer.toString(v)), want, x -> of.of(x, v));
        }
    }

    // ---- the promises

    private static void set() {
        outside(evening, "set(?, 0, 0)", 0, 6, BAD, (x, v) -> x.set(v, 0, 0));
        outside(evening, "set(0, 0, ?)", 0, 7, BAD, (x, v) -> x.set(0, 0, v));
        outside(evening, "set(1, 0, ?)", 0, 65, BAD, (x, v) -> x.set(1, 0, v));
        outside(evening, "set(2, 0, ?)", 0, 75, BAD, (x, v) -> x.set(2, 0, v));
        outside(empty, "set(1, 0, ?)", 0, 70, BAD, (x, v) -> x.set(1, 0, v));
        outside(empty, "set(2, 0, ?)", 0, 70, BAD, (x, v) -> x.set(2, 0, v));
        outside(evening, "set(3, 0, ?)", 0, 255, BAD, (x, v) -> x.set(3, 0, v));
        outside(evening, "set(4, 0, ?)", 0, 1, BAD, (x, v) -> x.set(4, 0, v));
        outside(evening, "set(5, ?, 0)", 0, 3, BAD, (x, v) -> x.set(5, v, 0));
        outside(evening, "set(5, 0, ?)", 0, 9, BAD, (x, v) -> x.set(5, 0, v));
        outside(evening, "set(6, ?, 0)", 0, 3, BAD, (x, v) -> x.set(6, v, 0));
        outside(evening, "set(6, 0, ?)", 0, 7, BAD, (x, v) -> x.set(6, 0, v));
        outside(full, "set(5, ?, 0)", 0, 4, BAD, (x, v) -> x.set(5, v, 0));
        outside(full, "set(6, ?, 7)", 0, 4, BAD, (x, v) -> x.set(6, v, 7));
        refuses(empty, "set(5, 0, 0) of nobody", BAD, x -> x.set(5, 0, 0));
        refuses(empty, "set(6, 0, 0) of nobody", BAD, x -> x.set(6, 0, 0));
        int[] places = {1, 2, 4, 7};
        for (int s = 0; s < 4; s++) {
            for (int t = 0; t < 4; t++) {
                int one = s;
                int place = places[t];
                if (s != t) refuses(evening, "set(6, " + s + ", " + place + ")", STATE, x -> x.set(6, one, place));
            }
        }
        outside(evening, "set(6, ?, 1): BAD ahead of STATE", 0, 3, BAD, (x, v) -> x.set(6, v, 1));
    }

    private static void sitter() {
        outside(evening, "sitter(?, 0, 0)", 0, 5, BAD, (x, v) -> x.sitter(v, 0, 0));
        outside(evening, "sitter(0, ?, 0)", 0, 9, BAD, (x, v) -> x.sitter(0, v, 0));
        outside(evening, "sitter(0, 0, ?)", 0, 7, BAD, (x, v) -> x.sitter(0, 0, v));
        outside(empty, "sitter(?, 0, 0)", 0, 5, BAD, (x, v) -> x.sitter(v, 0, 0));
        outside(evening, "sitter(?, 0, 1): BAD ahead of STATE", 0, 5, BAD, (x, v) -> x.sitter(v, 0, 1));
        outside(evening, "sitter(0, ?, 1): BAD ahead of STATE", 0, 9, BAD, (x, v) -> x.sitter(0, v, 1));
        outside(full, "sitter(?, 0, 7): BAD ahead of FULL", 0, 5, BAD, (x, v) -> x.sitter(v, 0, 7));
        outside(full, "sitter(0, ?, 7): BAD ahead of FULL", 0, 9, BAD, (x, v) -> x.sitter(0, v, 7));
        outside(full, "sitter(0, 0, ?): BAD ahead of FULL", 0, 7, BAD, (x, v) -> x.sitter(0, 0, v));
        for (int p : new int[] {1, 2, 4, 7}) refuses(evening, "sitter(0, 0, " + p + ")", STATE, x -> x.sitter(0, 0, p));
        for (int p = 0; p < 5; p++) {
            int place = p;
            refuses(full, "sitter(0, 0, " + p + "): STATE ahead of FULL", STATE, x -> x.sitter(0, 0, place));
        }
        for (int p = 5; p < 8; p++) {
            int place = p;
            refuses(full, "sitter(0, 0, " + p + ")", FULL, x -> x.sitter(0, 0, place));
        }
    }

    private static void told() {
        outside(evening, "told(?, 0)", 0, 3, BAD, (x, v) -> x.told(v, 0));
        outside(evening, "told(0, ?)", 0, 9, BAD, (x, v) -> x.told(0, v));
        outside(full, "told(?, 9)", 0, 4, BAD, (x, v) -> x.told(v, 9));
        refuses(empty, "told(0, 0) of nobody", BAD, x -> x.told(0, 0));
    }

    private static void feed() {
        outside(empty, "feed(?)", 0, 255, BAD, (x, v) -> x.feed(v));
        outside(evening, "feed(?)", 0, 255, BAD, (x, v) -> x.feed(v));
        outside(tapeFull, "feed(?): BAD ahead of FULL", 0, 255, BAD, (x, v) -> x.feed(v));
        for (int letter : new int[] {0, 32, 97, 255}) {
            refuses(tapeFull, "feed(" + letter + ")", FULL, x -> x.feed(letter));
        }
    }

    private static void text() {
        refuses(full, "text(): FULL ahead of a FAULT, THE TAPE stays", FULL, x -> x.text());
    }

    private static void force() {
        outside(empty, "force(?)", 0, 0, BAD, (x, v) -> x.force(v));
        outside(evening, "force(?)", 0, 2, BAD, (x, v) -> x.force(v));
        outside(full, "force(?)", 0, 5, BAD, (x, v) -> x.force(v));
    }

    private static void night() {
        outside(evening, "night(?, 0)", 0, 2, NO_ANSWER, (x, v) -> x.night(v, 0));
        outside(evening, "night(0, ?)", 0, 53, NO_ANSWER, (x, v) -> x.night(0, v));
        for (int what : new int[] {4, 5, 9, 14, 19, 24, 29, 34, 39, 44, 49, 54, 59, 60, 63, 100, 110}) {
            refuses(evening, "night(0, " + what + ")", NO_ANSWER, x -> x.night(0, what));
        }
        for (int what : new int[] {4, 9, 15, 25, 35, 45, 55, 60}) {
            refuses(full, "night(0, " + what + ")", NO_ANSWER, x -> x.night(0, what));
        }
        refuses(evening, "night(3, 0): it is missing", NO_ANSWER, x -> x.night(3, 0));
        refuses(empty, "night(0, 0): it is missing", NO_ANSWER, x -> x.night(0, 0));
    }

    private static void sit() {
        outside(evening, "sit(?)", 0, 3, BAD, (x, v) -> x.sit(v));
        outside(empty, "sit(?)", 0, 3, BAD, (x, v) -> x.sit(v));
        refuses(evening, "sit(3)", MISSING, x -> x.sit(3));
        for (int s = 0; s < 4; s++) {
            int sheet = s;
            refuses(empty, "sit(" + s + ")", MISSING, x -> x.sit(sheet));
        }
    }

    private static void likely() {
        outside(evening, "likely(?, 0, 0)", 0, 8, NO, (x, v) -> x.likely(v, 0, 0));
        outside(evening, "likely(0, ?, 0)", 0, 7, NO, (x, v) -> x.likely(0, v, 0));
        outside(evening, "likely(0, 0, ?)", 0, 1, NO, (x, v) -> x.likely(0, 0, v));
    }

    private static void mean() {
        outside(evening, "mean(?, 0, 0)", 1, 8, NO, (x, v) -> x.mean(v, 0, 0));
        outside(evening, "mean(1, ?, 0)", 0, 7, NO, (x, v) -> x.mean(1, v, 0));
        outside(evening, "mean(1, 0, ?)", 0, 1, NO, (x, v) -> x.mean(1, 0, v));
    }

    private static void seat() {
        outside(evening, "seat(?, 1)", 0, 3, BAD, (x, v) -> x.seat(v, 1));
        outside(evening, "seat(0, ?)", 1, 8, BAD, (x, v) -> x.seat(0, v));
        outside(full, "seat(?, 1)", 0, 4, BAD, (x, v) -> x.seat(v, 1));
        refuses(empty, "seat(0, 1) of nobody", BAD, x -> x.seat(0, 1));
    }

    private static void gap() {
        outside(evening, "gap(?, 0)", 1, 8, BAD, (x, v) -> x.gap(v, 0));
        outside(evening, "gap(1, ?)", 0, 3, BAD, (x, v) -> x.gap(1, v));
        outside(full, "gap(8, ?)", 0, 4, BAD, (x, v) -> x.gap(8, v));
        refuses(empty, "gap(1, 0) of nobody", BAD, x -> x.gap(1, 0));
    }

    private static void stay() {
        outside(evening, "stay(?)", 0, 3, BAD, (x, v) -> x.stay(v));
        refuses(evening, "stay(3)", MISSING, x -> x.stay(3));
        refuses(empty, "stay(0)", MISSING, x -> x.stay(0));
    }

    private static void eddies() {
        outside(evening, "eddies(?)", 0, 2, NO_EDDIES, (x, v) -> x.eddies(v));
        refuses(empty, "eddies(0)", NO_EDDIES, x -> x.eddies(0));
    }

    private static void best() {
        outside(evening, "best(?, 0, 0)", 0, 3, BAD, (x, v) -> x.best(v, 0, 0));
        outside(evening, "best(0, ?, 0)", 0, 3, BAD, (x, v) -> x.best(0, v, 0));
        outside(evening, "best(0, 0, ?)", 0, 1, BAD, (x, v) -> x.best(0, 0, v));
        outside(evening, "best(3, ?, 0): BAD ahead of -11", 0, 3, BAD, (x, v) -> x.best(3, v, 0));
        outside(evening, "best(3, 0, ?): BAD ahead of -11", 0, 1, BAD, (x, v) -> x.best(3, 0, v));
        outside(full, "best(0, ?, 0)", 0, 4, BAD, (x, v) -> x.best(0, v, 0));
        refuses(evening, "best(3, 3, 1)", MISSING, x -> x.best(3, 3, 1));
        refuses(empty, "best(0, 0, 0) of nobody, ahead of -11", BAD, x -> x.best(0, 0, 0));
    }

    private static void eyes() {
        outside(evening, "eyes(?, 0, -1)", 0, 3, NO_ANSWER, (x, v) -> x.eyes(v, 0, -1));
        outside(evening, "eyes(2, ?, -1)", 0, 5, NO_ANSWER, (x, v) -> x.eyes(2, v, -1));
        outside(evening, "eyes(2, 0, ?)", -2, 3, NO_ANSWER, (x, v) -> x.eyes(2, 0, v));
        outside(full, "eyes(1, 5, ?)", -2, 4, NO_ANSWER, (x, v) -> x.eyes(1, 5, v));
        refuses(evening, "eyes(3, 0, -1): it is missing", NO_ANSWER, x -> x.eyes(3, 0, -1));
        refuses(evening, "eyes(0, 0, -1): six items, four SITTERS", NO_ANSWER, x -> x.eyes(0, 0, -1));
        refuses(full, "eyes(0, 0, -1): three items, five SITTERS", NO_ANSWER, x -> x.eyes(0, 0, -1));
        refuses(empty, "eyes(0, 0, -1): it is missing, nobody is there", NO_ANSWER, x -> x.eyes(0, 0, -1));
        refuses(empty, "eyes(0, 0, 0) of nobody", NO_ANSWER, x -> x.eyes(0, 0, 0));
    }

    private static void film() {
        outside(evening, "film(?, 0)", 0, 3, BAD, (x, v) -> x.film(v, 0));
        outside(evening, "film(0, ?)", 0, 3, BAD, (x, v) -> x.film(0, v));
        outside(evening, "film(?, 3): BAD ahead of -11", 0, 3, BAD, (x, v) -> x.film(v, 3));
        for (int s = 0; s < 4; s++) {
            int sheet = s;
            refuses(evening, "film(" + s + ", 3)", MISSING, x -> x.film(sheet, 3));
        }
        refuses(empty, "film(0, 1)", MISSING, x -> x.film(0, 1));
    }

    /** It is refused nothing; that it is in thought alone is seen like a refusal. */
    private static void drawn() {
        for (int seed : new int[] {0, 1, -1, Integer.MAX_VALUE, Integer.MIN_VALUE}) {
            long answer = evening.make().drawn(seed);
            refuses(evening, "drawn(" + seed + ") in thought", answer, x -> x.drawn(seed));
        }
    }

    private static void chance() {
        outside(evening, "chance(0, ?, 0)", 1, 20, NO, (x, v) -> x.chance(0, v, 0));
        outside(evening, "chance(0, 1, ?)", 0, 1, NO, (x, v) -> x.chance(0, 1, v));
        outside(empty, "chance(-1, ?, 1)", 1, 20, NO, (x, v) -> x.chance(-1, v, 1));
    }

    /** An IMAGE of nothing new changes nothing: the only answer that differs is what back() would bring. */
    private static void image() {
        refuses(new Scene(x -> x.image()), "image() again", 0, x -> x.image());
        refuses(new Scene(x -> {
            buildFull(x);
            x.image();
        }), "image() of five again", 5, x -> x.image());
    }

    private static void back() {
        refuses(empty, "back(), there is none", STATE, x -> x.back());
        refuses(full, "back(), there is none", STATE, x -> x.back());
        refuses(tapeFull, "back(), there is none", STATE, x -> x.back());
    }

    private static void count() {
        outside(empty, "count(?)", 0, 8, BAD, (x, v) -> x.count(v));
        outside(full, "count(?)", 0, 8, BAD, (x, v) -> x.count(v));
    }

    private static void sheet() {
        outside(evening, "sheet(?, 0, 1)", 0, 3, BAD, (x, v) -> x.sheet(v, 0, 1));
        outside(evening, "sheet(?, -1, 1)", 0, 3, BAD, (x, v) -> x.sheet(v, -1, 1));
        outside(evening, "sheet(0, ?, 1)", -1, 2, BAD, (x, v) -> x.sheet(0, v, 1));
        for (int sort = 0; sort < 3; sort++) {
            int s = sort;
            for (int n : new int[] {41, 42, 256, 296, 65536, Integer.MAX_VALUE}) {
                refuses(evening, "sheet(0, " + sort + ", " + n + ")", BAD, x -> x.sheet(0, s, n));
                refuses(empty, "sheet(0, " + sort + ", " + n + ")", BAD, x -> x.sheet(0, s, n));
            }
            for (int n : new int[] {-1, -2, -40, -256, Integer.MIN_VALUE}) {
                refuses(evening, "sheet(0, " + sort + ", " + n + ")", NEGATIVE, x -> x.sheet(0, s, n));
                refuses(empty, "sheet(0, " + sort + ", " + n + ")", NEGATIVE, x -> x.sheet(0, s, n));
            }
        }
        outside(evening, "sheet(?, 0, -1): BAD ahead of -14", 0, 3, BAD, (x, v) -> x.sheet(v, 0, -1));
        outside(evening, "sheet(0, ?, -1): BAD ahead of -14", -1, 2, BAD, (x, v) -> x.sheet(0, v, -1));
    }

    private static void cell() {
        outside(evening, "cell(?, 0, 1)", 0, 3, BAD, (x, v) -> x.cell(v, 0, 1));
        outside(evening, "cell(?, -1, 1): BAD ahead of -12", 0, 3, BAD, (x, v) -> x.cell(v, -1, 1));
        outside(evening, "cell(0, ?, 1)", 0, 5, OUTSIDE, (x, v) -> x.cell(0, v, 1));
        outside(evening, "cell(1, ?, 1)", 0, 3, OUTSIDE, (x, v) -> x.cell(1, v, 1));
        outside(evening, "cell(2, ?, 1)", 0, 3, OUTSIDE, (x, v) -> x.cell(2, v, 1));
        outside(full, "cell(3, ?, 1)", 0, 39, OUTSIDE, (x, v) -> x.cell(3, v, 1));
        for (int i : new int[] {0, -1, 40, Integer.MAX_VALUE, Integer.MIN_VALUE}) {
            refuses(evening, "cell(3, " + i + ", 1): -11 ahead of -12", MISSING, x -> x.cell(3, i, 1));
        }
        Scene none = new Scene(x -> x.sheet(0, 2, 0));
        refuses(none, "cell(0, 0, 1) of a row of 0", OUTSIDE, x -> x.cell(0, 0, 1));
    }

    private static void copy() {
        outside(evening, "copy(?, 0, 0, 0, 1)", 0, 3, BAD, (x, v) -> x.copy(v, 0, 0, 0, 1));
        outside(evening, "copy(0, 0, ?, 0, 1)", 0, 3, BAD, (x, v) -> x.copy(0, 0, v, 0, 1));
        outside(evening, "copy(?, 0, 3, 0, 1): BAD ahead of -11", 0, 3, BAD, (x, v) -> x.copy(v, 0, 3, 0, 1));
        outside(evening, "copy(3, 0, ?, 0, 1): BAD ahead of -11", 0, 3, BAD, (x, v) -> x.copy(3, 0, v, 0, 1));
        outside(evening, "copy(?, 0, 0, 0, -1): BAD ahead of -12", 0, 3, BAD, (x, v) -> x.copy(v, 0, 0, 0, -1));
        for (int n : new int[] {1, 0, -1, 41}) {
            refuses(evening, "copy(3, 0, 0, 0, " + n + ")", MISSING, x -> x.copy(3, 0, 0, 0, n));
            refuses(evening, "copy(0, 0, 3, 0, " + n + ")", MISSING, x -> x.copy(0, 0, 3, 0, n));
            refuses(evening, "copy(3, 0, 3, 0, " + n + ")", MISSING, x -> x.copy(3, 0, 3, 0, n));
        }
        int[][] unlike = {{0, 1}, {0, 2}, {1, 0}, {1, 2}, {2, 0}, {2, 1}};
        for (int[] u : unlike) {
            for (int n : new int[] {1, 0, -1, 41}) {
                refuses(evening, "copy(" + u[0] + ", 0, " + u[1] + ", 0, " + n + "): -13 ahead of -12", UNLIKE,
                    x -> x.copy(u[0], 0, u[1], 0, n));
            }
        }
        outside(evening, "copy(0, ?, 0, 0, 1)", 0, 5, OUTSIDE, (x, v) -> x.copy(0, v, 0, 0, 1));
        outside(evening, "copy(0, 0, 0, ?, 1)", 0, 5, OUTSIDE, (x, v) -> x.copy(0, 0, 0, v, 1));
        outside(evening, "copy(0, 0, 0, 0, ?)", 0, 6, OUTSIDE, (x, v) -> x.copy(0, 0, 0, 0, v));
        outside(evening, "copy(0, 2, 0, 0, ?)", 0, 4, OUTSIDE, (x, v) -> x.copy(0, 2, 0, 0, v));
        outside(evening, "copy(0, 0, 0, 2, ?)", 0, 4, OUTSIDE, (x, v) -> x.copy(0, 0, 0, 2, v));
        outside(evening, "copy(0, ?, 0, 0, 0)", 0, 6, OUTSIDE, (x, v) -> x.copy(0, v, 0, 0, 0));
        outside(evening, "copy(0, 0, 0, ?, 0)", 0, 6, OUTSIDE, (x, v) -> x.copy(0, 0, 0, v, 0));
        outside(full, "copy(3, ?, 3, 0, 1)", 0, 39, OUTSIDE, (x, v) -> x.copy(3, v, 3, 0, 1));
        outside(full, "copy(3, 0, 3, 0, ?)", 0, 40, OUTSIDE, (x, v) -> x.copy(3, 0, 3, 0, v));
        Scene two = new Scene(x -> {
            lay(x, 0, 0, 1, -1, 1);
            lay(x, 1, 0, -1, -1);
        });
        refuses(two, "copy(0, 0, 1, 0, 3): only the other one is too short", OUTSIDE, x -> x.copy(0, 0, 1, 0, 3));
        refuses(two, "copy(1, 0, 0, 0, 3): only the one is too short", OUTSIDE, x -> x.copy(1, 0, 0, 0, 3));
        refuses(two, "copy(0, 1, 1, 1, 2): some would have room", OUTSIDE, x -> x.copy(0, 1, 1, 1, 2));
        refuses(two, "copy(0, 2, 1, 0, 2): some stand there", OUTSIDE, x -> x.copy(0, 2, 1, 0, 2));
    }

    private static void sitters() {
        outside(evening, "sitters(?, 0, 0, 0)", 0, 3, BAD, (x, v) -> x.sitters(v, 0, 0, 0));
        outside(evening, "sitters(0, ?, 0, 0)", 0, 2, BAD, (x, v) -> x.sitters(0, v, 0, 0));
        outside(evening, "sitters(0, 0, 0, ?)", 0, 5, BAD, (x, v) -> x.sitters(0, 0, 0, v));
        outside(evening, "sitters(0, 1, 0, ?): BAD ahead of -13", 0, 5, BAD, (x, v) -> x.sitters(0, 1, 0, v));
        outside(evening, "sitters(3, 0, 0, ?): BAD ahead of -11", 0, 5, BAD, (x, v) -> x.sitters(3, 0, 0, v));
        outside(evening, "sitters(3, ?, 0, 0): BAD ahead of -11", 0, 2, BAD, (x, v) -> x.sitters(3, v, 0, 0));
        outside(evening, "sitters(0, 0, 99, ?): BAD ahead of -12", 0, 5, BAD, (x, v) -> x.sitters(0, 0, 99, v));
        for (int sheet = 0; sheet < 3; sheet++) {
            for (int sort = 0; sort < 3; sort++) {
                int at = sheet;
                int as = sort;
                if (sheet == sort) continue;
                refuses(evening, "sitters(" + sheet + ", " + sort + ", 0, 0)", UNLIKE, x -> x.sitters(at, as, 0, 0));
                refuses(evening, "sitters(" + sheet + ", " + sort + ", 0, 1)", UNLIKE, x -> x.sitters(at, as, 0, 1));
                refuses(evening, "sitters(" + sheet + ", " + sort + ", -1, 1): -13 ahead of -12", UNLIKE,
                    x -> x.sitters(at, as, -1, 1));
            }
        }
        for (int sort = 0; sort < 3; sort++) {
            int as = sort;
            refuses(evening, "sitters(3, " + sort + ", 0, 0)", MISSING, x -> x.sitters(3, as, 0, 0));
            refuses(evening, "sitters(3, " + sort + ", -1, 5): -11 ahead of -12", MISSING,
                x -> x.sitters(3, as, -1, 5));
        }
        outside(evening, "sitters(0, 0, ?, 1): nothing stood ahead", 0, 3, OUTSIDE, (x, v) -> x.sitters(0, 0, v, 1));
        Scene threes = new Scene(x -> lay(x, 0, 2, 0, 0, 0, 0, 0));
        outside(threes, "sitters(0, 2, ?, 1): a third is wanted", 0, 2, OUTSIDE, (x, v) -> x.sitters(0, 2, v, 1));
        refuses(full, "sitters(1, 1, 0, 1): full ones are left out", 0, x -> x.sitters(1, 1, 0, 1));
    }

    private static void taken() {
        outside(evening, "taken(0, ?)", 0, 5, BAD, (x, v) -> x.taken(0, v));
        outside(evening, "taken(4, ?): BAD ahead of -11", 0, 5, BAD, (x, v) -> x.taken(4, v));
        outside(evening, "taken(?, 0)", 0, 3, MISSING, (x, v) -> x.taken(v, 0));
        outside(evening, "taken(?, 5): -11 ahead of -13", 0, 3, MISSING, (x, v) -> x.taken(v, 5));
        outside(full, "taken(?, 0)", 0, 4, MISSING, (x, v) -> x.taken(v, 0));
        refuses(empty, "taken(0, 0) of nobody", MISSING, x -> x.taken(0, 0));
        int[][] unlike = {{0, 2}, {0, 3}, {0, 4}, {0, 5}, {1, 2}, {1, 4}, {1, 5}, {2, 1}, {2, 3}, {2, 4}, {2, 5},
            {3, 1}, {3, 3}, {3, 5}};
        for (int[] u : unlike) {
            refuses(evening, "taken(" + u[0] + ", " + u[1] + ")", UNLIKE, x -> x.taken(u[0], u[1]));
        }
    }
}
