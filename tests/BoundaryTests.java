/**
 * Each sentence of the document that names a boundary case has a test of its own: what the call
 * answers there, and, where it is refused, that STATUS counts it once, under its reason, and that
 * nothing else changes. The sentence is quoted as it stands in the document.
 */
public final class BoundaryTests {
    private static final int NONE = -1, BAD = -2, NO = -3, FULL = -4;
    private static final int LEAST = Integer.MIN_VALUE, MOST = Integer.MAX_VALUE, REASONS = 3;
    private static final int LOSS = 0, NARROWED = 1, WIDENED = 2, USUAL = 3, SOUNDED = 4, EXACT = 5, KINDS = 6;
    private static int wrong = 0;
    private static String sentence = "";

    private interface Call {
        long on(NineTongues x);
    }

    /** All that goes THE PATH, with numbers that are as told, but for STATES and PLACES that may not be there. */
    private static final Call[] GOING = {
        x -> x.parts(0, 0), x -> x.formOf(0, 0), x -> x.step(1, 0), x -> x.unlike(0, 0), x -> x.gone(0, 0)};
    /** The same with a number that is not as told. */
    private static final Call[] GOING_WITH_BAD = {
        x -> x.parts(-1, 9), x -> x.formOf(-1, 4), x -> x.step(0, 4), x -> x.unlike(-1, MOST), x -> x.gone(-1, 8)};

    private static void says(String quoted) {
        sentence = quoted;
    }

    private static void due(String call, long got, long want) {
        if (got != want) {
            wrong++;
            System.out.println("'" + sentence + "': " + call + " answered " + got + ", due is " + want);
        }
    }

    /** Reason -1: the call is not refused. */
    private static void counted(NineTongues x, String name, Call call, long want, int reason) {
        int[] before = new int[REASONS];
        for (int what = 0; what < REASONS; what++) {
            before[what] = x.status(what);
        }
        due(name, call.on(x), want);
        for (int what = 0; what < REASONS; what++) {
            due("status(" + what + ") behind " + name, x.status(what), before[what] + (what == reason ? 1 : 0));
        }
    }

    private static void refused(NineTongues x, String name, Call call, long want, int reason) {
        long before = x.digest();
        counted(x, name, call, want, reason);
        due("digest() behind " + name, x.digest(), before);
    }

    private static void bad(NineTongues x, String name, Call call) {
        refused(x, name, call, BAD, 0);
    }

    private static void bad(NineTongues x, String name, Call call, int answer) {
        refused(x, name, call, answer, 0);
    }

    private static void no(NineTongues x, String name, Call call) {
        refused(x, name, call, NO, 1);
    }

    private static void full(NineTongues x, String name, Call call) {
        refused(x, name, call, FULL, 2);
    }

    private static void taken(NineTongues x, String name, Call call, long want) {
        counted(x, name, call, want, -1);
    }

    /** Numbers that are not from least to most. */
    private static int[] beside(int least, int most) {
        return new int[] {LEAST, least - 1, most + 1, MOST};
    }

    private static NineTongues fresh() {
        return new NineTongues();
    }

    /** TONGUES that say all FORMS they are told, each with one WORD (PARTS 0: with none). */
    private static NineTongues speaking(int... parts) {
        NineTongues x = fresh();
        for (int i = 0; i < parts.length; i++) {
            x.tongue(0, 15, 0);
            if (parts[i] > 0) {
                x.word(i, parts[i], 0, 0);
            }
        }
        return x;
    }

    /** One TONGUE that says all FORMS they are told, with a WORD for each. */
    private static NineTongues withWords(int... parts) {
        NineTongues x = speaking(0);
        for (int one : parts) {
            x.word(0, one, 0, 0);
        }
        return x;
    }

    private static void path(NineTongues x, String text) {
        x.clear();
        for (int i = 0; i < text.length(); i += 8) {
            long v = 0;
            int n = Math.min(8, text.length() - i);
            for (int j = i; j < i + n; j++) {
                v = v << 8 | text.charAt(j);
            }
            x.type(v, n);
        }
    }

    private static long mix(long h, int... values) {
        long mixed = h;
        for (int v : values) {
            mixed = 31 * mixed + v;
        }
        return mixed;
    }

    // ---- Promise 1

    private static void newObject() {
        says("As told; no TONGUES, no PLACES.");
        NineTongues x = fresh();
        for (int what = 0; what < 10; what++) {
            due("count(" + what + ")", x.count(what), 0);
        }
        due("hush()", x.hush(), 0);
        due("clear()", x.clear(), 0);
        due("fault()", x.fault(), 0);
        due("middle()", x.middle(), 0);
        due("rings(0)", x.rings(0), 0);
        due("rings(1)", x.rings(1), 0);
        due("worst()", x.worst(), NONE);
        due("sets()", x.sets(), 0);
        for (int what = 0; what < REASONS; what++) {
            due("status(" + what + ")", x.status(what), 0);
        }
        due("digest()", x.digest(), mix(599, 0, 0, 0, 0, 0, 0, 0, 0, 0, 0, 2, 1, NONE, NONE, NONE, NONE,
            0, 0, 0, 0, 0, 0, -2, -2, -2, -2, 0, 1));
    }

    private static void newObjectAsked() {
        says("As told; no TONGUES, no PLACES.");
        NineTongues x = fresh();
        bad(x, "word(0, 1, 0, 0)", y -> y.word(0, 1, 0, 0));
        bad(x, "cost(0, 0, 0, 0)", y -> y.cost(0, 0, 0, 0), -1000);
        no(x, "length()", y -> y.length());
        for (Call call : GOING) {
            no(x, "what goes the path", call);
        }
        bad(x, "best(0, 0, 0, -1)", y -> y.best(0, 0, 0, NONE));
        bad(x, "third(0, 0)", y -> y.third(0, 0));
        bad(x, "round(0, 0, 0, 0)", y -> y.round(0, 0, 0, 0));
        bad(x, "common(0, 0)", y -> y.common(0, 0));
        bad(x, "bears(0, 0, -1)", y -> y.bears(0, 0, NONE), -10);
        no(x, "which(0, 1, -1)", y -> y.which(0, 1, NONE));
        bad(x, "which(0, 1, 0)", y -> y.which(0, 1, 0));
        bad(x, "pair(0, 0, 1, 0)", y -> y.pair(0, 0, 1, 0));
        bad(x, "atFault(0)", y -> y.atFault(0));
        bad(x, "alike(0, 0, 0, 0)", y -> y.alike(0, 0, 0, 0));
        no(x, "from(0)", y -> y.from(0));
        no(x, "from(1)", y -> y.from(1));
    }

    // ---- Promise 2

    private static void tongueBits() {
        says("FORMS they MUST say (bits)");
        NineTongues x = fresh();
        for (int v : beside(0, 15)) {
            bad(x, "tongue(" + v + ", the same, 0)", y -> y.tongue(v, v, 0));
            bad(x, "tongue(" + v + ", 15, 0)", y -> y.tongue(v, 15, 0));
        }
        says("FORMS they CAN say (bits");
        for (int v : beside(0, 15)) {
            bad(x, "tongue(0, " + v + ", 0)", y -> y.tongue(0, v, 0));
        }
        says("LEANS (bits: VALUES that are guessed)");
        for (int v : beside(0, 15)) {
            bad(x, "tongue(0, 15, " + v + ")", y -> y.tongue(0, 15, v));
        }
        taken(x, "tongue(0, 0, 15)", y -> y.tongue(0, 0, 15), 0);
        taken(x, "tongue(15, 15, 0)", y -> y.tongue(15, 15, 0), 1);
    }

    private static void tongueMustBeyondCan() {
        says("those they MUST, too");
        NineTongues x = fresh();
        for (int form = 0; form < 4; form++) {
            int one = 1 << form;
            bad(x, "tongue(" + one + ", all others, 0)", y -> y.tongue(one, 15 - one, 0));
            bad(x, "tongue(15, all but " + one + ", 0)", y -> y.tongue(15, 15 - one, 0));
            taken(x, "tongue(" + one + ", the same, 0)", y -> y.tongue(one, one, 0), form);
        }
    }

    private static void tongueFull() {
        says("A TONGUE: its number. BAD; FULL: 6.");
        NineTongues x = fresh();
        for (int i = 0; i < 6; i++) {
            taken(x, "tongue(0, 0, 0)", y -> y.tongue(0, 0, 0), i);
        }
        full(x, "the seventh", y -> y.tongue(0, 0, 0));
        bad(x, "BAD ahead of FULL", y -> y.tongue(0, 0, 16));
        bad(x, "MUST beyond CAN ahead of FULL", y -> y.tongue(1, 0, 0));
        due("count(0)", x.count(0), 6);
    }

    // ---- Promise 3

    private static void wordNumbers() {
        says("WORDS 0 .. 7 of a TONGUE, as they come: PARTS (1 .. 255), SOUND, USUAL (0 .. 9 each).");
        NineTongues x = speaking(0, 0);
        for (int v : beside(0, 1)) {
            bad(x, "word(" + v + ", 1, 0, 0)", y -> y.word(v, 1, 0, 0));
        }
        bad(x, "word(5, 1, 0, 0)", y -> y.word(5, 1, 0, 0));
        for (int v : beside(1, 255)) {
            bad(x, "word(0, " + v + ", 0, 0)", y -> y.word(0, v, 0, 0));
        }
        for (int v : beside(0, 9)) {
            bad(x, "word(0, 1, " + v + ", 0)", y -> y.word(0, 1, v, 0));
            bad(x, "word(0, 1, 0, " + v + ")", y -> y.word(0, 1, 0, v));
        }
        taken(x, "word(0, 1, 0, 0)", y -> y.word(0, 1, 0, 0), 0);
        taken(x, "word(0, 255, 9, 9)", y -> y.word(0, 255, 9, 9), 1);
        taken(x, "word(1, 255, 9, 0)", y -> y.word(1, 255, 9, 0), 0);
    }

    private static void wordFull() {
        says("A WORD: its number. BAD; FULL: 8.");
        NineTongues x = speaking(0, 0);
        for (int i = 0; i < 8; i++) {
            taken(x, "word(1, 1, 0, 0)", y -> y.word(1, 1, 0, 0), i);
        }
        full(x, "the ninth", y -> y.word(1, 1, 0, 0));
        bad(x, "BAD ahead of FULL", y -> y.word(1, 0, 0, 0));
        due("count(5)", x.count(5), 8);
        taken(x, "the first of another", y -> y.word(0, 1, 0, 0), 0);
    }

    // ---- Promise 4

    private static void put() {
        says("LOST (0), ADDED (1): what it was. BAD.");
        NineTongues x = fresh();
        for (int v : beside(0, 1)) {
            bad(x, "put(" + v + ", 0)", y -> y.put(v, 0));
        }
        for (int v : beside(0, 9)) {
            bad(x, "put(0, " + v + ")", y -> y.put(0, v));
            bad(x, "put(1, " + v + ")", y -> y.put(1, v));
        }
        says("LOST (0 .. 9; 2 at first)");
        taken(x, "put(0, 9)", y -> y.put(0, 9), 2);
        taken(x, "put(0, 0)", y -> y.put(0, 0), 9);
        taken(x, "put(0, 0)", y -> y.put(0, 0), 0);
        says("ADDED (0 .. 9; 1 at first)");
        taken(x, "put(1, 9)", y -> y.put(1, 9), 1);
        taken(x, "put(1, 0)", y -> y.put(1, 0), 9);
        taken(x, "put(1, 0)", y -> y.put(1, 0), 0);
    }

    // ---- Promise 5

    private static void say() {
        says("THE SAYING has PLACES 0 .. 5, as they come, each with PARTS (1 .. 255)");
        NineTongues x = fresh();
        for (int v : beside(1, 255)) {
            bad(x, "say(" + v + ")", y -> y.say(v));
        }
        taken(x, "say(1)", y -> y.say(1), 0);
        taken(x, "say(255)", y -> y.say(255), 1);
        says("A PLACE: its number. BAD; FULL: 6.");
        for (int i = 2; i < 6; i++) {
            taken(x, "say(7)", y -> y.say(7), i);
        }
        full(x, "the seventh", y -> y.say(7));
        bad(x, "BAD ahead of FULL", y -> y.say(0));
        due("count(1)", x.count(1), 6);
    }

    // ---- Promise 6

    private static void form() {
        says("A FORM of THE SAYING (NONE, 0, 1): what it was. BAD: -10.");
        NineTongues x = fresh();
        for (int v : beside(0, 3)) {
            bad(x, "form(" + v + ", 0)", y -> y.form(v, 0), -10);
        }
        for (int v : beside(NONE, 1)) {
            bad(x, "form(0, " + v + ")", y -> y.form(0, v), -10);
            bad(x, "form(3, " + v + ")", y -> y.form(3, v), -10);
        }
        says("FORMS of all of it (none at first)");
        for (int form = 0; form < 4; form++) {
            int one = form;
            taken(x, "form(" + one + ", 1)", y -> y.form(one, 1), NONE);
            taken(x, "form(" + one + ", 0)", y -> y.form(one, 0), 1);
            taken(x, "form(" + one + ", -1)", y -> y.form(one, NONE), 0);
            taken(x, "form(" + one + ", -1)", y -> y.form(one, NONE), NONE);
        }
    }

    // ---- Promise 7

    private static void hush() {
        says("THE SAYING has no PLACES, no FORMS: how many PLACES it had.");
        NineTongues x = fresh();
        x.form(0, 0);
        x.form(3, 1);
        taken(x, "hush() without places", y -> y.hush(), 0);
        due("form(0, -1)", x.form(0, NONE), NONE);
        due("form(3, -1)", x.form(3, NONE), NONE);
        for (int i = 0; i < 6; i++) {
            x.say(1);
        }
        full(x, "the seventh", y -> y.say(1));
        taken(x, "hush() with all", y -> y.hush(), 6);
        due("count(1)", x.count(1), 0);
        taken(x, "hush() again", y -> y.hush(), 0);
        taken(x, "say(1)", y -> y.say(1), 0);
    }

    // ---- Promise 8

    private static void costNumbers() {
        says("What a WORD costs for a PLACE of THE SAYING, by a KIND. BAD: -1000.");
        NineTongues x = speaking(1, 0);
        x.say(1);
        for (int v : beside(0, KINDS - 1)) {
            bad(x, "cost(" + v + ", 0, 0, 0)", y -> y.cost(v, 0, 0, 0), -1000);
        }
        for (int v : beside(0, 0)) {
            bad(x, "cost(0, " + v + ", 0, 0)", y -> y.cost(0, v, 0, 0), -1000);
            bad(x, "cost(0, 0, 0, " + v + ")", y -> y.cost(0, 0, 0, v), -1000);
        }
        for (int v : beside(0, 1)) {
            bad(x, "cost(0, 0, " + v + ", 0)", y -> y.cost(0, 0, v, 0), -1000);
        }
        bad(x, "of a tongue without words", y -> y.cost(0, 0, 1, 0), -1000);
        x.hush();
        bad(x, "without places", y -> y.cost(0, 0, 0, 0), -1000);
    }

    private static void dueCosts(NineTongues x, int place, int word, int... costs) {
        for (int kind = 0; kind < KINDS; kind++) {
            int by = kind;
            taken(x, "cost(" + kind + ", " + place + ", 0, " + word + ")", y -> y.cost(by, place, 0, word), costs[kind]);
        }
    }

    private static void costsOfNothing() {
        says("LOST (0 .. 9; 2 at first)");
        NineTongues x = withWords(240);
        x.word(0, 15, 9, 9);
        x.say(15);
        dueCosts(x, 0, 0, 12, 16, 20, 12, 16, 17);
        x.put(0, 0);
        dueCosts(x, 0, 0, 4, 8, 4, 4, 8, 9);
        says("ADDED (0 .. 9; 1 at first)");
        x.put(1, 0);
        dueCosts(x, 0, 0, 0, 0, 0, 0, 0, 5);
        says("5 EXACT (under LOSS): 5 more, if the PARTS are not just the same.");
        dueCosts(x, 0, 1, 0, 0, 0, -9, 0, 0);
    }

    private static void costsOfMost() {
        says("2 WIDENED (under LOSS): LOST once more for each of those.");
        NineTongues x = withWords(1, 255, 128);
        x.put(0, 9);
        x.put(1, 9);
        x.say(255);
        x.say(1);
        x.say(127);
        dueCosts(x, 0, 0, 63, 63, 126, 63, 63, 68);
        says("1 NARROWED (under LOSS): ADDED once more for each of those.");
        dueCosts(x, 1, 1, 63, 126, 63, 63, 126, 68);
        says("0 LOSS: for each PART of the PLACE that it has not LOST");
        dueCosts(x, 2, 2, 72, 81, 135, 72, 81, 77);
        dueCosts(x, 0, 1, 0, 0, 0, 0, 0, 0);
    }

    private static void costOfTheLastWord() {
        says("What a WORD costs for a PLACE of THE SAYING, by a KIND. BAD: -1000.");
        NineTongues x = speaking(1, 1, 1, 1, 1, 1);
        for (int i = 1; i < 8; i++) {
            x.word(5, 1 << i, 0, 0);
        }
        for (int i = 0; i < 6; i++) {
            x.say(i < 5 ? 2 : 192);
        }
        taken(x, "cost(0, 5, 5, 7)", y -> y.cost(0, 5, 5, 7), 2);
        taken(x, "cost(0, 0, 5, 1)", y -> y.cost(0, 0, 5, 1), 0);
        taken(x, "cost(0, 5, 4, 0)", y -> y.cost(0, 5, 4, 0), 5);
        bad(x, "cost(0, 5, 5, 8)", y -> y.cost(0, 5, 5, 8), -1000);
        bad(x, "cost(0, 6, 5, 7)", y -> y.cost(0, 6, 5, 7), -1000);
        bad(x, "cost(0, 5, 6, 7)", y -> y.cost(0, 5, 6, 7), -1000);
    }

    private static void costsBelowNone() {
        says("3 USUAL (under LOSS): less USUAL of the WORD.");
        NineTongues x = speaking(0);
        x.say(1);
        for (int usual = 0; usual < 8; usual++) {
            x.word(0, 1, 0, usual);
        }
        for (int usual = 0; usual < 8; usual++) {
            int word = usual;
            taken(x, "cost(3, 0, 0, " + word + ")", y -> y.cost(USUAL, 0, 0, word), -usual);
        }
    }

    private static void soundOfNone() {
        says("a SOUND or none (none at first)");
        NineTongues x = speaking(0);
        x.word(0, 1, 9, 0);
        x.word(0, 1, 0, 0);
        x.say(1);
        says("(none: nothing)");
        taken(x, "of sound 9", y -> y.cost(SOUNDED, 0, 0, 0), 0);
        taken(x, "of sound 0", y -> y.cost(SOUNDED, 0, 0, 1), 0);
    }

    /** TONGUE b has WORDS that cost the same but for SOUND, farthest ahead. */
    private static int partsBehindSound(int sound, int kind) {
        NineTongues x = speaking(0, 0);
        x.word(0, 1, sound, 0);
        x.word(1, 3, 9 - sound, 0);
        x.word(1, 5, sound, 0);
        x.say(1);
        path(x, "ab" + kind);
        return x.parts(2, 0);
    }

    private static void soundOfWord() {
        says("4 SOUNDED (under NARROWED): how far SOUND of the WORD is from that of the PLACE more");
        due("from sound 0", partsBehindSound(0, SOUNDED), 5);
        due("from sound 9", partsBehindSound(9, SOUNDED), 5);
        due("narrowed, from sound 0", partsBehindSound(0, NARROWED), 3);
        due("narrowed, from sound 9", partsBehindSound(9, NARROWED), 3);
    }

    private static void soundIsGoneWithPlaces() {
        says("a SOUND or none (none at first)");
        NineTongues x = speaking(0, 0);
        x.word(0, 1, 9, 0);
        x.word(1, 3, 0, 0);
        x.word(1, 5, 9, 0);
        x.say(1);
        path(x, "ab4");
        due("with a sound", x.parts(2, 0), 5);
        x.hush();
        x.say(1);
        path(x, "b4");
        due("without a sound", x.parts(1, 0), 3);
    }

    private static void soundOfTheLastPlace() {
        says("THE SAYING has PLACES 0 .. 5, as they come, each with PARTS (1 .. 255), a SOUND or none (none at first)");
        NineTongues x = speaking(0, 0);
        x.word(0, 1, 9, 0);
        x.word(1, 3, 0, 0);
        x.word(1, 13, 9, 0);
        for (int i = 0; i < 6; i++) {
            x.say(1);
        }
        path(x, "a4b4");
        due("two are added in each of six places", x.step(2, 1), 12);
        due("the sixth", x.parts(2, 5), 13);
    }

    // ---- a STEP

    private static int chosen(int[] parts, int[] usual, int kind) {
        NineTongues x = speaking(0);
        for (int i = 0; i < parts.length; i++) {
            x.word(0, parts[i], 0, usual[i]);
        }
        x.say(1);
        path(x, "a" + kind);
        return x.parts(1, 0);
    }

    private static void stepOfLikeOnes() {
        says("each PLACE gets PARTS and SOUND of the WORD that costs least, of like ones the most USUAL, then the least.");
        int[] like = {3, 5, 9, 17};
        due("all like", chosen(like, new int[] {0, 0, 0, 0}, LOSS), 3);
        due("the last is the most usual", chosen(like, new int[] {1, 2, 3, 4}, LOSS), 17);
        due("two are the most usual", chosen(like, new int[] {1, 9, 9, 2}, LOSS), 5);
        due("the first is the most usual", chosen(like, new int[] {9, 9, 9, 9}, LOSS), 3);
        due("the cheapest is the least usual", chosen(new int[] {7, 3, 1}, new int[] {9, 9, 0}, LOSS), 1);
        due("cheaper by one, as it is usual", chosen(new int[] {1, 3}, new int[] {0, 2}, USUAL), 3);
        due("as cheap, and more usual", chosen(new int[] {1, 3}, new int[] {0, 1}, USUAL), 3);
        due("as cheap, and less usual", chosen(new int[] {3, 1}, new int[] {1, 0}, USUAL), 3);
        due("the last of eight", chosen(new int[] {3, 3, 3, 3, 3, 3, 3, 1}, new int[8], LOSS), 1);
    }

    private static NineTongues withForms(int must, int can, int leans, int value) {
        NineTongues x = fresh();
        x.tongue(must, can, leans);
        x.word(0, 1, 0, 0);
        x.say(1);
        for (int form = 0; form < 4; form++) {
            x.form(form, value);
        }
        path(x, "a");
        return x;
    }

    private static void dueForms(int must, int can, int leans, int value, int want) {
        NineTongues x = withForms(must, can, leans, value);
        for (int form = 0; form < 4; form++) {
            String told = "must " + must + ", can " + can + ", leans " + leans + ", value " + value + ": formOf(1, " + form + ")";
            due(told, x.formOf(1, form), want);
        }
    }

    private static void stepOfForms() {
        says("FORMS that the TONGUE can not say are none then");
        dueForms(0, 0, 15, 1, NONE);
        dueForms(0, 0, 15, 0, NONE);
        dueForms(0, 0, 15, NONE, NONE);
        says("those it MUST say and that are none get the VALUE it LEANS to");
        dueForms(15, 15, 15, NONE, 1);
        dueForms(15, 15, 0, NONE, 0);
        says("the others stay.");
        dueForms(15, 15, 15, 0, 0);
        dueForms(15, 15, 0, 1, 1);
        dueForms(0, 15, 15, NONE, NONE);
        dueForms(0, 15, 15, 0, 0);
        dueForms(0, 15, 0, 1, 1);
    }

    private static void stepOfEachForm() {
        says("FORMS 0 .. 3 have a VALUE 0, 1 or none.");
        for (int form = 0; form < 4; form++) {
            NineTongues x = withForms(1 << form, 1 << form, 1 << form, NONE);
            for (int asked = 0; asked < 4; asked++) {
                due("formOf(1, " + asked + ") with form " + form, x.formOf(1, asked), asked == form ? 1 : NONE);
            }
        }
    }

    // ---- Promises 9, 10

    private static void dueBytes(long v, int n, int... bytes) {
        NineTongues x = fresh();
        due("type(" + v + ", " + n + ")", x.type(v, n), n);
        long h = mix(599, 0, 0, n, 0, 0, 0, 0, 0, 0, 0, 2, 1, NONE, NONE, NONE, NONE);
        due("digest() behind type(" + v + ", " + n + ")", x.digest(),
            mix(mix(h, bytes), 0, 0, 0, 0, 0, 0, -2, -2, -2, -2, 0, 1));
    }

    private static void typeBytes() {
        says("The lowest n (1 .. 8) bytes of v, the highest of them first, come to THE PATH: how many it has.");
        dueBytes(0x0102030405060708L, 8, 1, 2, 3, 4, 5, 6, 7, 8);
        dueBytes(0x0102030405060708L, 1, 8);
        dueBytes(0x0102030405060708L, 3, 6, 7, 8);
        dueBytes(-1L, 8, 255, 255, 255, 255, 255, 255, 255, 255);
        dueBytes(-1L, 1, 255);
        dueBytes(Long.MIN_VALUE, 8, 128, 0, 0, 0, 0, 0, 0, 0);
        dueBytes(Long.MIN_VALUE, 7, 0, 0, 0, 0, 0, 0, 0);
        dueBytes(Long.MAX_VALUE, 8, 127, 255, 255, 255, 255, 255, 255, 255);
        dueBytes(0x80L, 1, 128);
        NineTongues x = fresh();
        for (int v : beside(1, 8)) {
            bad(x, "type(0, " + v + ")", y -> y.type(0, v));
        }
    }

    private static void typeFull() {
        says("THE PATH is a TEXT (60 bytes at most)");
        NineTongues x = fresh();
        for (int i = 1; i <= 6; i++) {
            x.type(0, 8);
        }
        taken(x, "type(0, 5)", y -> y.type(0, 5), 53);
        full(x, "eight more are 61", y -> y.type(0, 8));
        due("count(2)", x.count(2), 53);
        taken(x, "seven more are 60", y -> y.type(0, 7), 60);
        full(x, "one more", y -> y.type(0, 1));
        full(x, "eight more", y -> y.type(0, 8));
        bad(x, "BAD ahead of FULL", y -> y.type(0, 9));
        bad(x, "BAD ahead of FULL, none", y -> y.type(0, 0));
        says("THE PATH is empty: how many it had.");
        taken(x, "clear()", y -> y.clear(), 60);
        taken(x, "clear() again", y -> y.clear(), 0);
        taken(x, "type(0, 8)", y -> y.type(0, 8), 8);
    }

    // ---- Promise 11

    private static void dueFault(NineTongues x, String text, int want) {
        path(x, text);
        taken(x, "fault() of '" + text + "'", y -> y.fault(), want);
    }

    private static void faultOfLetters() {
        says("STEP: a letter a .. f (a TONGUE)");
        NineTongues x = speaking(1, 1, 1, 1, 1, 1);
        dueFault(x, "abcdef", NONE);
        dueFault(x, "`", 0);
        dueFault(x, "g", 0);
        dueFault(x, "A", 0);
        dueFault(x, "F", 0);
        dueFault(x, "f\u00e1", 1);
        dueFault(x, "f\u0000", 1);
        dueFault(x, "f\u00ff", 1);
        says("a letter of a TONGUE that is not there or has no WORDS");
        x = speaking(1, 0, 1);
        dueFault(x, "ac", NONE);
        dueFault(x, "ab", 1);
        dueFault(x, "ad", 1);
        dueFault(x, "f", 0);
        x.word(1, 1, 0, 0);
        dueFault(x, "ab", NONE);
        x.tongue(0, 0, 0);
        dueFault(x, "ad", 1);
    }

    private static void faultOfKinds() {
        says("perhaps a digit 0 .. 5 (a KIND; 0 without)");
        NineTongues x = speaking(1);
        dueFault(x, "a0a1a2a3a4a5", NONE);
        dueFault(x, "a6", 1);
        dueFault(x, "a9", 1);
        dueFault(x, "a/", 1);
        dueFault(x, "a:", 1);
        dueFault(x, "a00", 2);
        dueFault(x, "0", 0);
        dueFault(x, "(0", 1);
        dueFault(x, "(a)10", 4);
    }

    private static void dueByKind(NineTongues x, int kind, int with, int without) {
        path(x, "a" + kind);
        due("parts(1, 0) of 'a" + kind + "'", x.parts(1, 0), with);
        path(x, "a");
        due("parts(1, 0) of 'a' behind kind " + kind, x.parts(1, 0), without);
        path(x, "a0");
        due("parts(1, 0) of 'a0'", x.parts(1, 0), without);
        path(x, "((aaaaa)9)4(a)9aaaaaaaaa" + "b" + "a" + kind);
        due("parts(200, 0) by kind " + kind, x.parts(200, 0), with);
    }

    /** TONGUE b bears what is said. */
    private static NineTongues withTwoWords(int one, int other, int usual, int said) {
        NineTongues x = speaking(one, said);
        x.word(0, other, 0, usual);
        x.say(said);
        return x;
    }

    private static void stepWithoutKind() {
        says("perhaps a digit 0 .. 5 (a KIND; 0 without)");
        dueByKind(withTwoWords(1, 15, 1, 3), NARROWED, 1, 15);
        dueByKind(withTwoWords(1, 31, 0, 3), WIDENED, 31, 1);
        dueByKind(withTwoWords(1, 3, 9, 1), USUAL, 3, 1);
        dueByKind(withTwoWords(1, 15, 1, 3), SOUNDED, 1, 15);
        NineTongues x = withTwoWords(1, 3, 9, 1);
        x.put(1, 0);
        dueByKind(x, EXACT, 1, 3);
    }

    private static void faultOfRounds() {
        says("or ( STEPS ) and a digit 1 .. 9 (so often)");
        NineTongues x = speaking(1);
        for (char often = '1'; often <= '9'; often++) {
            dueFault(x, "(a)" + often, NONE);
            due("length()", x.length(), often - '0');
        }
        dueFault(x, "(a)0", 3);
        dueFault(x, "(a):", 3);
        dueFault(x, "(a)/", 3);
        dueFault(x, "(a)a", 3);
        dueFault(x, "(a)(", 3);
        dueFault(x, "(a))", 3);
        dueFault(x, ")", 0);
        dueFault(x, "a)", 1);
        dueFault(x, "(a)1)", 4);
        says("STEPS, one at least");
        dueFault(x, "()1", 1);
        dueFault(x, "( )1", 2);
        dueFault(x, "a()1", 2);
    }

    private static void faultOfBlanks() {
        says("blanks (32) anywhere.");
        NineTongues x = speaking(1);
        dueFault(x, "  a  3  (  a  )  9  ", NONE);
        due("length()", x.length(), 10);
        dueFault(x, "a\t", 1);
        dueFault(x, "\na", 0);
        dueFault(x, "a\u001f", 1);
        dueFault(x, "a!", 1);
        dueFault(x, "a\u00a0", 1);
        says("STEPS, one at least");
        dueFault(x, "", 0);
        dueFault(x, "    ", 4);
    }

    private static void faultOfDepth() {
        says("the 5th ( open, too");
        NineTongues x = speaking(1);
        dueFault(x, "((((a)1)1)1)1", NONE);
        dueFault(x, "(((((a)1)1)1)1)1", 4);
        dueFault(x, "(a)1(a)1(a)1(a)1(a)1", NONE);
        dueFault(x, "((((a)1(a)1)1(a)1)1(a)1)1(a)1", NONE);
        dueFault(x, "((((a)1(a)1((", 12);
        dueFault(x, "((((a(", 5);
    }

    private static void faultTooEarly() {
        says("the TEXT's length, if it ends too early.");
        NineTongues x = speaking(1);
        dueFault(x, "(", 1);
        dueFault(x, "(a", 2);
        dueFault(x, "(a)", 3);
        dueFault(x, "(a)  ", 5);
        dueFault(x, "((a)1", 5);
        dueFault(x, "((((", 4);
        String blanks = " ".repeat(52);
        dueFault(x, blanks + "((a)1a)1", NONE);
        dueFault(x, blanks + "(a)1((a)", 60);
        dueFault(x, blanks + "        ", 60);
        dueFault(x, blanks + "aaaaaaa)", 59);
        says("FAULT. NONE.");
        dueFault(x, "a", NONE);
        dueFault(x, "a".repeat(60), NONE);
    }

    // ---- Promise 12

    private static void dueLength(NineTongues x, String text, int want) {
        path(x, text);
        taken(x, "length() of '" + text + "'", y -> y.length(), want);
    }

    private static void noLength(NineTongues x, String text) {
        path(x, text);
        no(x, "length() of '" + text + "'", y -> y.length());
    }

    private static void length() {
        says("NO to all that goes it: a FAULT, more than 200 STEPS, no PLACES.");
        NineTongues x = speaking(1);
        dueLength(x, "((aaaaa)5)8", 200);
        dueLength(x, "((aaaaa)9)4(a)9aaaaaaaaaa(a)1", 200);
        noLength(x, "((aaaaa)9)4(a)9aaaaaaaaaa(a)2");
        noLength(x, "((aaaaa)9)4(a)9aaaaaaaaaa(aa)1");
        noLength(x, "((aaaaa)5)8a");
        noLength(x, "a((aaaaa)5)8");
        noLength(x, "a((aaaaa)5)8(a)9");
        noLength(x, "((aaaaa)5)9");
        noLength(x, "((((a)9)9)9)9");
        noLength(x, "((((" + "a".repeat(48) + ")9)9)9)9");
        noLength(x, "((((a)9)9)9)9((((a)9)9)9)9a5");
        noLength(x, "");
        noLength(x, " ");
        noLength(x, "ab");
        says("how many STEPS it goes (rounds as often as told)");
        dueLength(x, "a", 1);
        dueLength(x, "((((a)9)1)1)9", 81);
        dueLength(x, "((((a)1)1)1)1", 1);
        dueLength(x, "(a(a)2a)3(a)4", 16);
        dueLength(x, "a".repeat(60), 60);
        says("LENGTH. NO (but for no PLACES).");
        due("count(1)", x.count(1), 0);
        dueLength(x, "aa", 2);
    }

    // ---- Promises 13 to 17

    private static void goingRefused() {
        says("NO to all that goes it: a FAULT, more than 200 STEPS, no PLACES.");
        for (int i = 0; i < GOING.length; i++) {
            String name = "call " + i + " of what goes the path";
            NineTongues x = speaking(1);
            path(x, "((aaaaa)5)8");
            no(x, name + " without places", GOING[i]);
            no(x, name + " without places, BAD behind NO", GOING_WITH_BAD[i]);
            x.say(1);
            bad(x, name + " with 200 steps", GOING_WITH_BAD[i], i == 1 ? -10 : BAD);
            path(x, "((aaaaa)5)8a");
            no(x, name + " with 201 steps", GOING[i]);
            no(x, name + " with 201 steps, BAD behind NO", GOING_WITH_BAD[i]);
            path(x, "a)");
            no(x, name + " with a fault", GOING[i]);
            no(x, name + " with a fault, BAD behind NO", GOING_WITH_BAD[i]);
            path(x, "");
            no(x, name + " without steps", GOING[i]);
        }
    }

    /** PARTS 1 become 3 in TONGUE a, and PARTS 7 in TONGUE b. */
    private static NineTongues going() {
        NineTongues x = speaking(3, 7);
        x.say(1);
        x.say(128);
        path(x, "ab");
        return x;
    }

    private static void parts() {
        says("PARTS of a PLACE in a STATE. NO; BAD (behind NO).");
        NineTongues x = going();
        for (int v : beside(0, 2)) {
            bad(x, "parts(" + v + ", 0)", y -> y.parts(v, 0));
        }
        for (int v : beside(0, 1)) {
            bad(x, "parts(0, " + v + ")", y -> y.parts(0, v));
        }
        bad(x, "parts(0, 5)", y -> y.parts(0, 5));
        says("STATES 0 .. LENGTH: THE SAYING as it is, then behind each STEP.");
        taken(x, "parts(0, 0)", y -> y.parts(0, 0), 1);
        taken(x, "parts(0, 1)", y -> y.parts(0, 1), 128);
        taken(x, "parts(1, 0)", y -> y.parts(1, 0), 3);
        taken(x, "parts(2, 1)", y -> y.parts(2, 1), 7);
        for (int i = 2; i < 6; i++) {
            x.say(1);
        }
        taken(x, "parts(2, 5)", y -> y.parts(2, 5), 7);
    }

    private static void lastOfTwoHundred() {
        says("STATES 0 .. LENGTH: THE SAYING as it is, then behind each STEP.");
        NineTongues x = speaking(3, 7);
        x.say(1);
        path(x, "((aaaaa)9)4(a)9aaaaaaaaa b");
        due("length()", x.length(), 199);
        path(x, "((aaaaa)9)4(a)9aaaaaaaaaa b");
        due("length()", x.length(), 200);
        taken(x, "parts(199, 0)", y -> y.parts(199, 0), 3);
        taken(x, "parts(200, 0)", y -> y.parts(200, 0), 7);
        bad(x, "parts(201, 0)", y -> y.parts(201, 0));
        taken(x, "unlike(199, 200)", y -> y.unlike(199, 200), 1);
        bad(x, "unlike(199, 201)", y -> y.unlike(199, 201));
        taken(x, "step(200, 1)", y -> y.step(200, 1), 1);
        bad(x, "step(201, 1)", y -> y.step(201, 1));
        taken(x, "formOf(200, 3)", y -> y.formOf(200, 3), NONE);
        bad(x, "formOf(201, 3)", y -> y.formOf(201, 3), -10);
        path(x, "((aaaaa)9)4(a)9aaaaaaaaaa a");
        x.say(4);
        taken(x, "gone(1, 2)", y -> y.gone(1, 2), 1);
        path(x, "((bbbbb)9)4(b)9bbbbbbbbbb a");
        taken(x, "gone(1, 2) in the last", y -> y.gone(1, 2), 200);
    }

    private static void formOf() {
        says("FORM in a STATE (NONE: none). NO; BAD: -10 (behind NO).");
        NineTongues x = going();
        for (int v : beside(0, 2)) {
            bad(x, "formOf(" + v + ", 0)", y -> y.formOf(v, 0), -10);
        }
        for (int v : beside(0, 3)) {
            bad(x, "formOf(0, " + v + ")", y -> y.formOf(0, v), -10);
        }
        taken(x, "formOf(0, 0)", y -> y.formOf(0, 0), NONE);
        taken(x, "formOf(2, 3)", y -> y.formOf(2, 3), NONE);
        x.form(3, 1);
        taken(x, "formOf(2, 3)", y -> y.formOf(2, 3), 1);
        x.form(3, 0);
        taken(x, "formOf(0, 3)", y -> y.formOf(0, 3), 0);
    }

    private static void stepNumbers() {
        says("Of a STEP (1 .. LENGTH): how many PARTS are lost (0), added (1), FORMS guessed (2), left out (3).");
        NineTongues x = going();
        for (int v : beside(1, 2)) {
            bad(x, "step(" + v + ", 0)", y -> y.step(v, 0));
        }
        for (int v : beside(0, 3)) {
            bad(x, "step(1, " + v + ")", y -> y.step(1, v));
        }
        taken(x, "step(1, 0)", y -> y.step(1, 0), 1);
        taken(x, "step(1, 1)", y -> y.step(1, 1), 3);
        taken(x, "step(2, 0)", y -> y.step(2, 0), 0);
        taken(x, "step(2, 1)", y -> y.step(2, 1), 2);
        taken(x, "step(2, 2)", y -> y.step(2, 2), 0);
        taken(x, "step(2, 3)", y -> y.step(2, 3), 0);
    }

    private static void stepOfAll() {
        says("Of a STEP (1 .. LENGTH): how many PARTS are lost (0), added (1), FORMS guessed (2), left out (3).");
        NineTongues x = speaking(0, 0);
        x.tongue(15, 15, 5);
        x.tongue(0, 0, 15);
        x.word(2, 255, 0, 0);
        x.word(3, 128, 0, 0);
        for (int i = 0; i < 6; i++) {
            x.say(1);
        }
        path(x, "cdc");
        due("all are added", x.step(1, 1), 42);
        due("all are guessed", x.step(1, 2), 4);
        due("none is left out", x.step(1, 3), 0);
        due("all but one are lost", x.step(2, 0), 42);
        due("all are left out", x.step(2, 3), 4);
        due("none is guessed", x.step(2, 2), 0);
        due("all are guessed again", x.step(3, 2), 4);
        x.form(1, 1);
        due("one is told", x.step(1, 2), 3);
    }

    private static void unlike() {
        says("UNLIKE of two STATES. NO; BAD (behind NO).");
        NineTongues x = going();
        for (int v : beside(0, 2)) {
            bad(x, "unlike(" + v + ", 0)", y -> y.unlike(v, 0));
            bad(x, "unlike(0, " + v + ")", y -> y.unlike(0, v));
        }
        taken(x, "unlike(0, 0)", y -> y.unlike(0, 0), 0);
        taken(x, "unlike(2, 2)", y -> y.unlike(2, 2), 0);
        taken(x, "unlike(0, 2)", y -> y.unlike(0, 2), 6);
        taken(x, "unlike(2, 0)", y -> y.unlike(2, 0), 6);
        says("how many PARTS, of all PLACES, one has and the other not, and how many FORMS are not alike.");
        x = fresh();
        x.tongue(15, 15, 0);
        x.word(0, 240, 0, 0);
        for (int i = 0; i < 6; i++) {
            x.say(15);
        }
        path(x, "a");
        due("all are unlike, none and 0 too", x.unlike(0, 1), 52);
        x.form(0, 1);
        x.form(1, 0);
        due("what was told stays alike", x.unlike(1, 0), 50);
    }

    private static void goneNumbers() {
        says("The first STEP from which on no STATE has a PART (0 .. 7) in a PLACE any more");
        NineTongues x = going();
        for (int v : beside(0, 1)) {
            bad(x, "gone(" + v + ", 0)", y -> y.gone(v, 0));
        }
        for (int v : beside(0, 7)) {
            bad(x, "gone(0, " + v + ")", y -> y.gone(0, v));
        }
        taken(x, "gone(1, 7)", y -> y.gone(1, 7), 1);
        says("0: THE SAYING has it not there and no later one.");
        taken(x, "gone(0, 7)", y -> y.gone(0, 7), 0);
        taken(x, "gone(1, 3)", y -> y.gone(1, 3), 0);
        says("NONE: the last STATE has it.");
        taken(x, "gone(0, 0)", y -> y.gone(0, 0), NONE);
        taken(x, "gone(0, 2)", y -> y.gone(0, 2), NONE);
    }

    private static void goneAgain() {
        says("The first STEP from which on no STATE has a PART (0 .. 7) in a PLACE any more");
        NineTongues x = speaking(1, 3, 1);
        x.say(2);
        path(x, "abab");
        due("gone and there again", x.gone(0, 1), NONE);
        path(x, "ababa");
        due("gone for good in the last", x.gone(0, 1), 5);
        path(x, "ababaaa");
        due("gone for good ahead of the last", x.gone(0, 1), 5);
        x.hush();
        x.say(1);
        path(x, "aba");
        due("there in between alone", x.gone(0, 1), 3);
    }

    // ---- Promises 18, 19

    private static void bestNumbers() {
        says("BEST: how UNLIKE (i = NONE), the i-th of m TONGUES (i below m). BAD; NO.");
        NineTongues x = speaking(3, 7, 0);
        x.say(1);
        for (int v : beside(0, KINDS - 1)) {
            bad(x, "best(" + v + ", 0, 0, -1)", y -> y.best(v, 0, 0, NONE));
        }
        for (int v : beside(0, 2)) {
            bad(x, "best(0, " + v + ", 0, -1)", y -> y.best(0, v, 0, NONE));
        }
        for (int v : beside(0, 3)) {
            bad(x, "best(0, 0, " + v + ", -1)", y -> y.best(0, 0, v, NONE));
            bad(x, "best(0, 0, " + v + ", 0)", y -> y.best(0, 0, v, 0));
        }
        for (int m = 0; m <= 3; m++) {
            int over = m;
            for (int v : beside(NONE, m - 1)) {
                bad(x, "best(0, 0, " + m + ", " + v + ")", y -> y.best(0, 0, over, v));
            }
        }
    }

    private static void bestAccepted() {
        says("BEST to TONGUE b over m others (0 .. 3)");
        NineTongues x = speaking(3, 7, 0);
        x.say(1);
        for (int m = 0; m <= 3; m++) {
            int over = m;
            taken(x, "best(5, 1, " + m + ", -1)", y -> y.best(EXACT, 1, over, NONE), 2);
            for (int i = 0; i < m; i++) {
                int at = i;
                taken(x, "best(0, 1, " + m + ", " + i + ")", y -> y.best(0, 1, over, at), 0);
            }
        }
        says("NO: no PLACES, a TONGUE that is asked has no WORDS.");
        no(x, "best of a tongue without words", y -> y.best(0, 2, 0, NONE));
        bad(x, "BAD ahead of NO", y -> y.best(0, 2, 0, 0));
        x.hush();
        no(x, "best without places", y -> y.best(0, 1, 0, NONE));
        bad(x, "BAD ahead of NO", y -> y.best(0, 1, 4, NONE));
    }

    /** Straight into TONGUE 2 the first of its WORDS is cheapest (4 UNLIKE), over TONGUE 1 the other (3 UNLIKE). */
    private static NineTongues withDetours() {
        NineTongues x = speaking(0, 4, 63, 4, 0);
        x.word(2, 4, 0, 0);
        x.say(3);
        return x;
    }

    private static void bestOfLikeOnes() {
        says("the one by which the last STATE is least UNLIKE THE SAYING, of like ones the first row.");
        NineTongues x = withDetours();
        due("over none", x.best(LOSS, 2, 0, NONE), 4);
        due("over one", x.best(LOSS, 2, 1, NONE), 3);
        due("the first of two like ones", x.best(LOSS, 2, 1, 0), 1);
        due("over two: first", x.best(LOSS, 2, 2, 0), 1);
        due("over two: second", x.best(LOSS, 2, 2, 1), 1);
        due("over three: last", x.best(LOSS, 2, 3, 2), 1);
        x = withDetours();
        x.form(0, 1);
        due("as unlike with a form", x.best(LOSS, 2, 1, NONE), 3);
        says("of all rows of m TONGUES with WORDS, b behind them");
        x = speaking(1);
        x.say(1);
        due("b over itself", x.best(LOSS, 0, 3, NONE), 0);
        due("b over itself: last", x.best(LOSS, 0, 3, 2), 0);
    }

    private static void rowsByKind() {
        says("(By a KIND, of THE SAYING;");
        NineTongues x = withTwoWords(1, 15, 1, 3);
        x.word(1, 1, 0, 0);
        x.word(1, 15, 0, 1);
        x.end(0, 1);
        // NARROWED takes 1, and keeps it; by LOSS 15 is as cheap, and more USUAL.
        due("best over one", x.best(NARROWED, 0, 1, NONE), 1);
        due("best over none, by loss", x.best(LOSS, 0, 0, NONE), 2);
        due("which", x.which(NARROWED, 1, NONE), 1);
        due("which, by loss", x.which(LOSS, 1, NONE), 0);
        due("which of two", x.which(NARROWED, 2, NONE), 3);
    }

    private static void bestOfMost() {
        says("the one by which the last STATE is least UNLIKE THE SAYING, of like ones the first row.");
        NineTongues x = fresh();
        x.tongue(15, 15, 0);
        x.word(0, 240, 0, 0);
        for (int i = 0; i < 6; i++) {
            x.say(15);
        }
        due("as unlike as can be", x.best(LOSS, 0, 0, NONE), 52);
        due("as unlike as can be, over three", x.best(LOSS, 0, 3, NONE), 52);
        x = speaking(2, 2, 2, 2, 2, 1);
        x.word(5, 3, 0, 0);
        x.say(1);
        x.say(2);
        due("the last row is the best", x.best(LOSS, 5, 3, NONE), 1);
        due("the last row: first", x.best(LOSS, 5, 3, 0), 5);
        due("the last row: last", x.best(LOSS, 5, 3, 2), 5);
    }

    private static void third() {
        says("THIRD: 1, 0. BAD; NO.");
        NineTongues x = speaking(3, 0);
        x.say(1);
        for (int v : beside(0, KINDS - 1)) {
            bad(x, "third(" + v + ", 0)", y -> y.third(v, 0));
        }
        for (int v : beside(0, 1)) {
            bad(x, "third(0, " + v + ")", y -> y.third(0, v));
        }
        taken(x, "third(5, 0)", y -> y.third(5, 0), 0);
        says("NO: no PLACES, a TONGUE that is asked has no WORDS.");
        no(x, "third of a tongue without words", y -> y.third(0, 1));
        bad(x, "BAD ahead of NO", y -> y.third(6, 1));
        x.hush();
        no(x, "third without places", y -> y.third(0, 0));
        bad(x, "BAD ahead of NO", y -> y.third(0, 2));
    }

    private static void thirdOfLikeOnes() {
        says("whether that over 1 is less UNLIKE than that over 0.");
        NineTongues x = withDetours();
        taken(x, "less by one", y -> y.third(LOSS, 2), 1);
        taken(x, "as unlike", y -> y.third(LOSS, 1), 0);
        x = speaking(2, 1);
        x.word(1, 2, 0, 0);
        x.say(1);
        taken(x, "none is better than straight", y -> y.third(LOSS, 1), 0);
        x = speaking(2);
        x.say(1);
        taken(x, "over itself alone", y -> y.third(LOSS, 0), 0);
        x = speaking(15, 2);
        x.word(0, 2, 0, 0);
        x.word(1, 8, 0, 0);
        x.say(8);
        due("over none", x.best(LOSS, 0, 0, NONE), 3);
        due("over one", x.best(LOSS, 0, 1, NONE), 3);
        due("over two", x.best(LOSS, 0, 2, NONE), 2);
        taken(x, "better over two alone", y -> y.third(LOSS, 0), 0);
    }

    // ---- Promise 20

    private static void roundNumbers() {
        says("ROUND: behind how many (0), after how many (1). BAD; NO.");
        NineTongues x = speaking(1, 1, 0);
        x.say(1);
        for (int v : beside(0, KINDS - 1)) {
            bad(x, "round(" + v + ", 0, 1, 0)", y -> y.round(v, 0, 1, 0));
        }
        for (int v : beside(0, 2)) {
            bad(x, "round(0, " + v + ", 1, 0)", y -> y.round(0, v, 1, 0));
            bad(x, "round(0, 0, " + v + ", 0)", y -> y.round(0, 0, v, 0));
        }
        for (int v : beside(0, 1)) {
            bad(x, "round(0, 0, 1, " + v + ")", y -> y.round(0, 0, 1, v));
        }
        taken(x, "round(5, 0, 1, 1)", y -> y.round(5, 0, 1, 1), 1);
        says("NO: no PLACES, a TONGUE that is asked has no WORDS.");
        no(x, "a without words", y -> y.round(0, 2, 1, 0));
        no(x, "t without words", y -> y.round(0, 0, 2, 0));
        bad(x, "BAD ahead of NO", y -> y.round(0, 2, 2, 2));
        x.hush();
        no(x, "without places", y -> y.round(0, 0, 1, 0));
        bad(x, "BAD ahead of NO", y -> y.round(0, 3, 1, 0));
    }

    private static void roundFromTheSaying() {
        says("the first STATE behind a round (THE SAYING is that behind round 0; PARTS, SOUNDS, FORMS) that comes again");
        NineTongues x = speaking(1);
        x.say(1);
        // THE SAYING has no SOUND, so it never comes again.
        due("the same parts, but a sound", x.round(LOSS, 0, 0, 0), 1);
        due("after one more", x.round(LOSS, 0, 0, 1), 1);
        x = speaking(1, 1);
        x.tongue(15, 15, 0);
        x.word(2, 1, 0, 0);
        x.say(1);
        due("forms that are guessed", x.round(LOSS, 0, 2, 0), 1);
        x.say(255);
        due("two places", x.round(LOSS, 0, 1, 0), 1);
    }

    /** Each round adds two PARTS, till no WORD has more. */
    private static void roundOfMany() {
        says("behind how many rounds it is there, after how many it comes again.");
        NineTongues x = speaking(1, 3);
        int has = 3;
        for (int i = 0; i < 3; i++) {
            x.word(0, 2 * has + 1, 0, 0);
            x.word(1, 4 * has + 3, 0, 0);
            has = 4 * has + 3;
        }
        x.say(1);
        due("behind three", x.round(LOSS, 0, 1, 0), 3);
        due("after one more", x.round(LOSS, 0, 1, 1), 1);
        due("of one tongue", x.round(LOSS, 0, 0, 0), 1);
        due("the other way", x.round(LOSS, 1, 0, 0), 4);
        x.say(255);
        due("the slower place tells", x.round(LOSS, 0, 1, 0), 3);
        for (int i = 2; i < 6; i++) {
            x.say(255);
        }
        due("of six places", x.round(LOSS, 0, 1, 0), 3);
        due("of six places, after one more", x.round(LOSS, 0, 1, 1), 1);
    }

    private static void roundOfSounds() {
        says("PARTS, SOUNDS, FORMS) that comes again");
        NineTongues x = speaking(0, 0);
        x.word(0, 1, 8, 0);
        x.word(0, 1, 9, 0);
        x.word(1, 1, 5, 9);
        x.word(1, 1, 9, 0);
        x.say(1);
        // SOUND 5 leads to 8, that to 9, with the same PARTS all along.
        due("behind two", x.round(SOUNDED, 0, 1, 0), 2);
        due("after one more", x.round(SOUNDED, 0, 1, 1), 1);
    }

    // ---- Promise 21

    private static void commonNumbers() {
        says("COMMON. BAD; NO.");
        NineTongues x = speaking(3);
        x.say(1);
        for (int v : beside(0, KINDS - 1)) {
            bad(x, "common(" + v + ", 0)", y -> y.common(v, 0));
        }
        for (int v : beside(0, 0)) {
            bad(x, "common(0, " + v + ")", y -> y.common(0, v));
        }
        bad(x, "a place that has not come", y -> y.common(0, 5));
        for (int i = 1; i < 6; i++) {
            x.say(1);
        }
        taken(x, "common(5, 5)", y -> y.common(5, 5), 3);
        bad(x, "common(0, 6)", y -> y.common(0, 6));
        x.hush();
        // Without PLACES there is no number of one: BAD, which is ahead of NO.
        bad(x, "without places", y -> y.common(0, 0));
    }

    private static void commonOfNone() {
        says("PARTS that a PLACE has behind a STEP into every TONGUE that has WORDS (NO: none has).");
        NineTongues x = fresh();
        x.say(255);
        no(x, "without tongues", y -> y.common(0, 0));
        bad(x, "BAD ahead of NO", y -> y.common(6, 0));
        x.tongue(0, 0, 0);
        x.tongue(0, 0, 0);
        no(x, "tongues without words", y -> y.common(0, 0));
        bad(x, "BAD ahead of NO", y -> y.common(0, 1));
        x.word(1, 255, 0, 0);
        taken(x, "one tongue has words", y -> y.common(0, 0), 255);
        x.word(0, 15, 0, 0);
        taken(x, "both have words", y -> y.common(0, 0), 15);
        x.tongue(0, 0, 0);
        x.word(2, 240, 0, 0);
        taken(x, "nothing in common", y -> y.common(0, 0), 0);
    }

    // ---- Promise 22

    private static void bearsNumbers() {
        says("BEARS: how many (i = NONE), the i-th (0 on). -5: not so many. BAD: -10; NO: -20: a has no WORDS.");
        NineTongues x = speaking(1, 0);
        for (int v : beside(0, KINDS - 1)) {
            bad(x, "bears(" + v + ", 0, -1)", y -> y.bears(v, 0, NONE), -10);
        }
        for (int v : beside(0, 1)) {
            bad(x, "bears(0, " + v + ", -1)", y -> y.bears(0, v, NONE), -10);
        }
        bad(x, "bears(0, 0, -2)", y -> y.bears(0, 0, -2), -10);
        bad(x, "bears(0, 0, least)", y -> y.bears(0, 0, LEAST), -10);
        refused(x, "a has no words", y -> y.bears(0, 1, NONE), -20, 1);
        refused(x, "a has no words", y -> y.bears(0, 1, MOST), -20, 1);
        bad(x, "BAD ahead of NO", y -> y.bears(0, 1, -2), -10);
        // They ask for no PLACES, and -5 is told neither as BAD, NO nor FULL.
        taken(x, "how many, without places", y -> y.bears(EXACT, 0, NONE), 1);
        taken(x, "the first", y -> y.bears(0, 0, 0), 1);
        taken(x, "not so many", y -> y.bears(0, 0, 1), -5);
        taken(x, "not so many by far", y -> y.bears(0, 0, MOST), -5);
    }

    private static void bearsOfEnds() {
        says("BEARS: sets of PARTS (1 .. 255)");
        NineTongues x = withWords(255, 1, 128);
        due("how many", x.bears(LOSS, 0, NONE), 3);
        due("the first", x.bears(LOSS, 0, 0), 1);
        due("the second", x.bears(LOSS, 0, 1), 128);
        due("the last", x.bears(LOSS, 0, 2), 255);
        due("not so many", x.bears(LOSS, 0, 3), -5);
        x.tongue(0, 0, 0);
        due("a tongue without words is not gone to", x.bears(LOSS, 0, NONE), 3);
        x.word(1, 15, 0, 0);
        x.word(1, 240, 0, 0);
        due("two come back with more", x.bears(LOSS, 0, NONE), 1);
        due("the highest set is the first", x.bears(LOSS, 0, 0), 255);
        x = speaking(1, 6);
        x.word(0, 2, 0, 0);
        due("one comes back", x.bears(LOSS, 0, NONE), 1);
        due("that one", x.bears(LOSS, 0, 0), 2);
        x.tongue(0, 0, 0);
        x.word(2, 1, 0, 0);
        due("none comes back over all", x.bears(LOSS, 0, NONE), 0);
        due("not one", x.bears(LOSS, 0, 0), -5);
    }

    private static void bearsOfSounds() {
        says("as a PLACE (without SOUND) carried into any TONGUE with WORDS and from there into TONGUE a, are the same.");
        NineTongues x = speaking(0);
        x.word(0, 3, 9, 0);
        x.word(0, 5, 0, 0);
        x.word(0, 1, 9, 0);
        x.tongue(0, 0, 0);
        x.word(1, 1, 0, 0);
        due("by what is lost", x.bears(LOSS, 0, NONE), 1);
        due("the same parts", x.bears(LOSS, 0, 0), 1);
        due("by sounds", x.bears(SOUNDED, 0, NONE), 1);
        due("the same sound", x.bears(SOUNDED, 0, 0), 5);
        x = speaking(1, 0);
        x.word(0, 5, 0, 0);
        x.word(1, 3, 9, 0);
        x.word(1, 5, 0, 0);
        due("two", x.bears(LOSS, 0, NONE), 2);
        x = speaking(0, 0);
        x.word(0, 1, 9, 0);
        x.word(0, 5, 0, 0);
        x.word(1, 3, 9, 0);
        x.word(1, 5, 0, 0);
        // Without a SOUND 1 is carried to 3, and comes back by SOUND 9; with SOUND 0 it would be carried to 5.
        due("without a sound at first", x.bears(SOUNDED, 0, NONE), 2);
        due("the first of them", x.bears(SOUNDED, 0, 0), 1);
        due("the second of them", x.bears(SOUNDED, 0, 1), 5);
    }

    // ---- Promise 23

    private static void middle() {
        says("the fewest PARTS by which all WORDS (of all TONGUES) with unlike PARTS are unlike, of like ones the least bits.");
        NineTongues x = fresh();
        taken(x, "without tongues", y -> y.middle(), 0);
        x.tongue(0, 0, 0);
        taken(x, "without words", y -> y.middle(), 0);
        x.word(0, 255, 0, 0);
        taken(x, "one word", y -> y.middle(), 0);
        x.word(0, 255, 9, 9);
        taken(x, "like parts", y -> y.middle(), 0);
        x.tongue(0, 0, 0);
        x.word(1, 127, 0, 0);
        taken(x, "the highest part", y -> y.middle(), 128);
        x.word(1, 128, 0, 0);
        taken(x, "the least of like ones", y -> y.middle(), 129);
        x = speaking(0, 0, 0);
        x.word(2, 255, 0, 0);
        for (int part = 0; part < 8; part++) {
            x.word(part % 2, 255 - (1 << part), 0, 0);
        }
        taken(x, "all parts", y -> y.middle(), 255);
        x = speaking(1, 2);
        taken(x, "the least of two", y -> y.middle(), 1);
        x.word(0, 3, 0, 0);
        taken(x, "both", y -> y.middle(), 3);
        x.word(0, 4, 0, 0);
        taken(x, "the third tells none more", y -> y.middle(), 3);
        x = speaking(2, 3, 14);
        x.word(0, 15, 0, 0);
        taken(x, "not the part that all have", y -> y.middle(), 5);
        x = speaking(1, 1, 1, 1, 1, 1);
        for (int i = 1; i < 8; i++) {
            x.word(5, i < 7 ? 1 : 65, 0, 0);
        }
        taken(x, "the last word of the last tongue", y -> y.middle(), 64);
    }

    // ---- Promises 24, 25

    private static void end() {
        says("THE END: PARTS of a PLACE (0 .. 5): what they were. BAD.");
        NineTongues x = fresh();
        for (int v : beside(0, 5)) {
            bad(x, "end(" + v + ", 1)", y -> y.end(v, 1));
        }
        says("PARTS of PLACES as they are told (0 .. 255; 0 at first: not looked at)");
        for (int v : beside(0, 255)) {
            bad(x, "end(0, " + v + ")", y -> y.end(0, v));
            bad(x, "end(5, " + v + ")", y -> y.end(5, v));
        }
        for (int place = 0; place < 6; place++) {
            int at = place;
            taken(x, "end(" + place + ", 255)", y -> y.end(at, 255), 0);
        }
        taken(x, "end(0, 0)", y -> y.end(0, 0), 255);
        taken(x, "end(5, 0)", y -> y.end(5, 0), 255);
        taken(x, "end(5, 0) again", y -> y.end(5, 0), 0);
    }

    private static void endForm() {
        says("THE END: a FORM (-2: not looked at; NONE; 0, 1): what it was. BAD: -10.");
        NineTongues x = fresh();
        for (int v : beside(0, 3)) {
            bad(x, "endForm(" + v + ", 0)", y -> y.endForm(v, 0), -10);
        }
        for (int v : beside(-2, 1)) {
            bad(x, "endForm(0, " + v + ")", y -> y.endForm(0, v), -10);
            bad(x, "endForm(3, " + v + ")", y -> y.endForm(3, v), -10);
        }
        says("FORMS (not looked at at first; none, 0, 1).");
        for (int form = 0; form < 4; form++) {
            int at = form;
            taken(x, "endForm(" + form + ", 1)", y -> y.endForm(at, 1), -2);
            taken(x, "endForm(" + form + ", 0)", y -> y.endForm(at, 0), 1);
            taken(x, "endForm(" + form + ", -1)", y -> y.endForm(at, NONE), 0);
            taken(x, "endForm(" + form + ", -2)", y -> y.endForm(at, -2), NONE);
            taken(x, "endForm(" + form + ", -2) again", y -> y.endForm(at, -2), -2);
        }
    }

    // ---- Promise 26

    private static void whichNumbers() {
        says("WHICH: how many (t = NONE); of those the share that begins with t is THE FRACTION: 1. BAD; NO.");
        NineTongues x = speaking(1, 3, 0);
        x.say(1);
        for (int v : beside(0, KINDS - 1)) {
            bad(x, "which(" + v + ", 1, -1)", y -> y.which(v, 1, NONE));
        }
        says("WHICH: rows of m (1 .. 4) TONGUES with WORDS");
        for (int v : beside(1, 4)) {
            bad(x, "which(0, " + v + ", -1)", y -> y.which(0, v, NONE));
            bad(x, "which(0, " + v + ", 0)", y -> y.which(0, v, 0));
        }
        for (int v : new int[] {LEAST, -2, 3, 5, MOST}) {
            bad(x, "which(0, 1, " + v + ")", y -> y.which(0, 1, v));
        }
        taken(x, "which(5, 1, -1)", y -> y.which(EXACT, 1, NONE), 2);
        taken(x, "which(0, 4, -1)", y -> y.which(0, 4, NONE), 16);
        taken(x, "which(0, 4, 1)", y -> y.which(0, 4, 1), 1);
        due("part(0)", x.part(0), 1);
        due("part(1)", x.part(1), 2);
    }

    private static void whichRefused() {
        says("the share of these whose first TONGUE is t (NO: there are none).");
        NineTongues x = speaking(1, 3, 0);
        x.say(1);
        x.end(0, 3);
        x.which(0, 2, 1);
        due("part(1)", x.part(1), 2);
        x.end(0, 255);
        no(x, "the share of none", y -> y.which(0, 1, 0));
        bad(x, "BAD ahead of NO", y -> y.which(0, 1, 3));
        taken(x, "how many are none", y -> y.which(0, 1, NONE), 0);
        due("part(0) stays", x.part(0), 1);
        due("part(1) stays", x.part(1), 2);
        says("NO: no PLACES, a TONGUE that is asked has no WORDS.");
        x.end(0, 0);
        no(x, "t has no words", y -> y.which(0, 1, 2));
        bad(x, "BAD ahead of NO", y -> y.which(0, 0, 2));
        x.hush();
        no(x, "without places", y -> y.which(0, 1, NONE));
        no(x, "without places, the share", y -> y.which(0, 1, 0));
        bad(x, "BAD ahead of NO", y -> y.which(0, 5, NONE));
        x = speaking(0);
        x.say(1);
        for (int m = 1; m <= 4; m++) {
            int size = m;
            taken(x, "no tongue has words, m " + m, y -> y.which(0, size, NONE), 0);
        }
    }

    private static void whichOfShares() {
        says("the share of these whose first TONGUE is t (NO: there are none).");
        NineTongues x = speaking(1, 3);
        x.say(1);
        x.end(0, 3);
        taken(x, "none begins so", y -> y.which(0, 1, 0), 1);
        says("THE FRACTION is 0 by 1 at first; lowest terms, below above 0.");
        due("part(0) of none", x.part(0), 0);
        due("part(1) of none", x.part(1), 1);
        taken(x, "all begin so", y -> y.which(0, 1, 1), 1);
        due("part(0) of all", x.part(0), 1);
        due("part(1) of all", x.part(1), 1);
        taken(x, "four of eight", y -> y.which(0, 4, 1), 1);
        due("part(0) of a half", x.part(0), 1);
        due("part(1) of a half", x.part(1), 2);
    }

    private static void whichByTheEnd() {
        says("by which the last STATE is as THE END tells (of PLACES that there are)");
        NineTongues x = speaking(1, 3);
        x.say(1);
        x.end(1, 77);
        due("a place that is not there", x.which(0, 1, NONE), 2);
        x.end(5, 77);
        x.say(1);
        due("a place that is there", x.which(0, 1, NONE), 0);
        x.end(1, 0);
        due("one that is not looked at", x.which(0, 1, NONE), 2);
        x.end(1, 1);
        due("one as told", x.which(0, 1, NONE), 1);
        x.endForm(3, 0);
        due("a form that is none", x.which(0, 1, NONE), 0);
        x.endForm(3, NONE);
        due("none is told", x.which(0, 1, NONE), 1);
        x.form(3, 0);
        due("0 is not none", x.which(0, 1, NONE), 0);
        x.endForm(3, 0);
        due("0 as told", x.which(0, 1, NONE), 1);
        x.endForm(3, 1);
        due("1 is not 0", x.which(0, 1, NONE), 0);
        x.endForm(3, -2);
        due("a form that is not looked at", x.which(0, 1, NONE), 1);
        for (int i = 2; i < 6; i++) {
            x.say(1);
        }
        due("the sixth place", x.which(0, 1, NONE), 0);
        x.end(5, 1);
        due("the sixth place as told", x.which(0, 1, NONE), 1);
    }

    private static void whichByEachForm() {
        says("THE END: PARTS of PLACES as they are told (0 .. 255; 0 at first: not looked at), FORMS (not looked at at first; none, 0, 1).");
        for (int form = 0; form < 4; form++) {
            NineTongues x = speaking(1);
            x.say(1);
            x.form(form, 1);
            for (int asked = 0; asked < 4; asked++) {
                x.endForm(asked, 1);
                due("endForm(" + asked + ", 1) with form " + form, x.which(0, 1, NONE), asked == form ? 1 : 0);
                x.endForm(asked, NONE);
                due("endForm(" + asked + ", -1) with form " + form, x.which(0, 1, NONE), asked == form ? 0 : 1);
                x.endForm(asked, -2);
            }
        }
    }

    private static void whichOfMost() {
        says("WHICH: rows of m (1 .. 4) TONGUES with WORDS");
        NineTongues x = speaking(1, 1, 1, 1, 1, 3);
        x.say(1);
        due("six in four", x.which(0, 4, NONE), 1296);
        x.end(0, 3);
        due("all that end in the last", x.which(0, 4, NONE), 216);
        due("the share of the last", x.which(0, 4, 5), 1);
        due("part(0)", x.part(0), 1);
        due("part(1)", x.part(1), 6);
    }

    // ---- Promise 27

    private static void pairNumbers() {
        says("A PAIR: its number. BAD: one TONGUE, there already, too; FULL: 24.");
        NineTongues x = speaking(1, 1, 0);
        x.word(0, 2, 0, 0);
        for (int v : beside(0, 2)) {
            bad(x, "pair(" + v + ", 0, 1, 0)", y -> y.pair(v, 0, 1, 0));
            bad(x, "pair(0, 0, " + v + ", 0)", y -> y.pair(0, 0, v, 0));
        }
        for (int v : beside(0, 1)) {
            bad(x, "pair(0, " + v + ", 1, 0)", y -> y.pair(0, v, 1, 0));
            bad(x, "pair(1, 0, 0, " + v + ")", y -> y.pair(1, 0, 0, v));
        }
        bad(x, "a tongue without words", y -> y.pair(2, 0, 0, 0));
        bad(x, "another tongue without words", y -> y.pair(0, 0, 2, 0));
        bad(x, "one tongue, one word", y -> y.pair(0, 0, 0, 0));
        bad(x, "one tongue, two words", y -> y.pair(0, 0, 0, 1));
        taken(x, "pair(0, 1, 1, 0)", y -> y.pair(0, 1, 1, 0), 0);
        bad(x, "there already", y -> y.pair(0, 1, 1, 0));
        says("they lead both ways.");
        bad(x, "there already, the other way", y -> y.pair(1, 0, 0, 1));
        taken(x, "pair(1, 0, 0, 0)", y -> y.pair(1, 0, 0, 0), 1);
        bad(x, "there already, the other way", y -> y.pair(0, 0, 1, 0));
    }

    private static void pairFull() {
        says("PAIRS 0 .. 23, as they come");
        NineTongues x = speaking(1, 1, 1);
        for (int i = 1; i < 8; i++) {
            x.word(0, 1, 0, 0);
            x.word(1, 1, 0, 0);
        }
        for (int i = 0; i < 24; i++) {
            int at = i;
            taken(x, "pair " + i, y -> y.pair(1, at % 8, 0, at / 8), i);
        }
        full(x, "one more", y -> y.pair(1, 0, 0, 3));
        bad(x, "there already is BAD ahead of FULL", y -> y.pair(0, 2, 1, 7));
        bad(x, "one tongue is BAD ahead of FULL", y -> y.pair(1, 0, 1, 1));
        bad(x, "no such word is BAD ahead of FULL", y -> y.pair(1, 0, 2, 1));
        full(x, "of another tongue", y -> y.pair(2, 0, 0, 0));
        due("count(3)", x.count(3), 24);
    }

    // ---- Promise 28

    private static void ringsNumbers() {
        says("How many RINGS (0), that COME HOME (1). BAD.");
        NineTongues x = speaking(1, 1, 1);
        for (int v : beside(0, 1)) {
            bad(x, "rings(" + v + ")", y -> y.rings(v));
        }
        says("each row of three PAIRS from a WORD of the first to one of the second");
        x.pair(0, 0, 1, 0);
        taken(x, "rings(0) of one pair", y -> y.rings(0), 0);
        x.pair(2, 0, 1, 0);
        taken(x, "rings(0) of two pairs", y -> y.rings(0), 0);
        x.pair(2, 0, 0, 0);
        says("the least number ahead, then either one of the two others, then the last, and back");
        taken(x, "rings(0) of three pairs", y -> y.rings(0), 2);
        taken(x, "rings(1) of three pairs", y -> y.rings(1), 2);
    }

    private static void dueRings(NineTongues x, int all, int home) {
        due("rings(0)", x.rings(0), all);
        due("rings(1)", x.rings(1), home);
        due("rings(0) again", x.rings(0), all);
    }

    private static void ringsOfTheLeast() {
        says("it COMES HOME, if that is the WORD it began with.");
        NineTongues x = speaking(1, 1, 1);
        x.word(0, 1, 0, 0);
        x.pair(0, 0, 1, 0);
        x.pair(1, 0, 2, 0);
        x.pair(2, 0, 0, 1);
        dueRings(x, 2, 0);
        says("the least number ahead, then either one of the two others, then the last, and back");
        x = speaking(1, 1, 1);
        x.word(1, 1, 0, 0);
        x.pair(0, 0, 1, 0);
        x.pair(1, 1, 2, 0);
        x.pair(2, 0, 0, 0);
        dueRings(x, 0, 0);
        x = speaking(1, 1, 1, 1, 1, 1);
        x.pair(5, 0, 4, 0);
        x.pair(4, 0, 3, 0);
        x.pair(5, 0, 3, 0);
        dueRings(x, 2, 2);
        says("RINGS: three unlike TONGUES");
        x = speaking(1, 1, 1, 1);
        x.pair(0, 0, 1, 0);
        x.pair(1, 0, 2, 0);
        x.pair(2, 0, 3, 0);
        x.pair(3, 0, 0, 0);
        dueRings(x, 0, 0);
        x = speaking(1, 1);
        x.word(0, 1, 0, 0);
        x.pair(0, 0, 1, 0);
        x.pair(0, 1, 1, 0);
        dueRings(x, 0, 0);
    }

    /** All TONGUES have two WORDS, each told by each of the two others. */
    private static void ringsOfMost() {
        says("each row of three PAIRS from a WORD of the first to one of the second");
        NineTongues x = speaking(1, 1, 1);
        for (int i = 0; i < 3; i++) {
            x.word(i, 1, 0, 0);
        }
        for (int i = 0; i < 12; i++) {
            int one = i / 4;
            x.pair(one, i % 2, (one + 1) % 3, i / 2 % 2);
        }
        due("count(3)", x.count(3), 12);
        dueRings(x, 32, 16);
        x = speaking(0, 0, 0);
        for (int i = 0; i < 24; i++) {
            x.word(i / 8, 1, 0, 0);
        }
        for (int i = 0; i < 24; i++) {
            x.pair(i / 8, i % 8, (i / 8 + 1) % 3, i % 8);
        }
        due("count(3)", x.count(3), 24);
        dueRings(x, 16, 16);
        due("sets()", x.sets(), 8);
        due("the last words", x.alike(0, 7, 2, 7), 1);
        due("the last word and the one ahead", x.alike(0, 7, 2, 6), 0);
    }

    // ---- Promises 29, 30

    /** Three PAIRS whose ring comes home, and a fourth to WORD 1 of TONGUE 0 that makes one that does not. */
    private static NineTongues withFault() {
        NineTongues x = speaking(1, 1, 1, 1);
        x.word(0, 2, 0, 0);
        x.pair(0, 0, 1, 0);
        x.pair(1, 0, 2, 0);
        x.pair(2, 0, 0, 0);
        x.pair(2, 0, 0, 1);
        return x;
    }

    private static void dueShare(NineTongues x, int pair, int above, int below) {
        taken(x, "atFault(" + pair + ")", y -> y.atFault(pair), 1);
        due("part(0) of " + pair, x.part(0), above);
        due("part(1) of " + pair, x.part(1), below);
    }

    private static void atFault() {
        says("AT FAULT is THE FRACTION: 1. BAD; NO.");
        NineTongues x = withFault();
        for (int v : beside(0, 3)) {
            bad(x, "atFault(" + v + ")", y -> y.atFault(v));
        }
        bad(x, "atFault(23)", y -> y.atFault(23));
        says("AT FAULT: of a PAIR: of all RINGS it is in the share that does not COME HOME (NO: it is in none).");
        dueShare(x, 3, 1, 1);
        x.pair(3, 0, 2, 0);
        no(x, "in none", y -> y.atFault(4));
        due("part(0) stays", x.part(0), 1);
        due("part(1) stays", x.part(1), 1);
        says("THE FRACTION is 0 by 1 at first; lowest terms, below above 0.");
        dueShare(x, 0, 1, 2);
        dueShare(x, 1, 1, 2);
        dueShare(x, 2, 0, 1);
        x = fresh();
        due("part(0) at first", x.part(0), 0);
        due("part(1) at first", x.part(1), 1);
    }

    private static void atFaultOfTwoTriples() {
        says("AT FAULT: of a PAIR: of all RINGS it is in the share that does not COME HOME (NO: it is in none).");
        NineTongues x = speaking(1, 1, 1, 1);
        x.word(1, 2, 0, 0);
        x.pair(1, 0, 2, 0);
        x.pair(0, 0, 1, 0);
        x.pair(2, 0, 0, 0);
        x.pair(2, 0, 3, 0);
        x.pair(3, 0, 1, 1);
        // RINGS over TONGUES 0, 1, 2 come home, those over 1, 2, 3 do not; PAIR 0 is in all.
        dueRings(x, 4, 2);
        dueShare(x, 0, 1, 2);
        dueShare(x, 1, 0, 1);
        dueShare(x, 2, 0, 1);
        dueShare(x, 3, 1, 1);
        dueShare(x, 4, 1, 1);
    }

    private static void worst() {
        says("WORST. NONE: no PAIR is in a RING.");
        NineTongues x = speaking(1, 1, 1, 1);
        taken(x, "worst() without pairs", y -> y.worst(), NONE);
        x.word(0, 1, 0, 0);
        x.pair(3, 0, 0, 0);
        taken(x, "worst() without rings", y -> y.worst(), NONE);
        says("WORST: the PAIR with the greatest, of like ones the least.");
        x.pair(0, 0, 1, 0);
        x.pair(1, 0, 2, 0);
        x.pair(2, 0, 0, 0);
        taken(x, "all are 0", y -> y.worst(), 1);
        x.pair(2, 0, 0, 1);
        taken(x, "the last is 1", y -> y.worst(), 4);
        x = withFault();
        x.word(0, 4, 0, 0);
        x.pair(2, 0, 0, 2);
        taken(x, "two are 1", y -> y.worst(), 3);
    }

    private static void worstOfLikeShares() {
        says("WORST: the PAIR with the greatest, of like ones the least.");
        NineTongues x = speaking(1, 1, 1);
        x.word(0, 2, 0, 0);
        x.pair(0, 0, 1, 0);
        x.pair(1, 0, 2, 0);
        x.pair(2, 0, 0, 0);
        taken(x, "none is at fault", y -> y.worst(), 0);
        x.pair(2, 0, 0, 1);
        x.pair(0, 1, 1, 0);
        // PAIR 0 is in four RINGS, PAIR 1 in all eight; the half of them strays for both.
        dueRings(x, 8, 4);
        dueShare(x, 0, 1, 2);
        dueShare(x, 1, 1, 2);
        taken(x, "the least of all", y -> y.worst(), 0);
    }

    private static void worstByShare() {
        says("WORST: the PAIR with the greatest, of like ones the least.");
        NineTongues x = speaking(1, 1, 1, 1, 1, 1);
        x.word(0, 2, 0, 0);
        x.word(3, 2, 0, 0);
        x.pair(0, 0, 1, 0);
        x.pair(1, 0, 2, 0);
        x.pair(0, 1, 1, 0);
        x.pair(0, 1, 2, 0);
        x.pair(0, 0, 2, 0);
        x.pair(3, 0, 4, 0);
        x.pair(4, 0, 5, 0);
        x.pair(5, 0, 3, 1);
        // PAIRS 0 to 4 are in more RINGS that stray, but the share of 5 to 7 is the greater one.
        dueShare(x, 1, 1, 2);
        dueShare(x, 5, 1, 1);
        due("worst()", x.worst(), 5);
    }

    // ---- Promises 31, 32

    private static void setsOfNone() {
        says("How many SETS there are (of all WORDS; one that no PAIR leads to is one)");
        NineTongues x = fresh();
        taken(x, "without tongues", y -> y.sets(), 0);
        x.tongue(0, 0, 0);
        taken(x, "without words", y -> y.sets(), 0);
        x.word(0, 1, 0, 0);
        taken(x, "one word", y -> y.sets(), 1);
        x.word(0, 1, 0, 0);
        taken(x, "like words", y -> y.sets(), 2);
        NineTongues all = speaking(1, 1, 1, 1, 1, 1);
        for (int i = 0; i < 42; i++) {
            all.word(i / 7, 1, 0, 0);
        }
        taken(all, "all words", y -> y.sets(), 48);
        all.pair(5, 7, 0, 7);
        taken(all, "all words and a pair", y -> y.sets(), 47);
    }

    private static void setsAtFault() {
        says("SETS: WORDS that PAIRS lead to, one behind another, but PAIRS that are AT FAULT by more than a half: one SET.");
        NineTongues x = speaking(1, 1, 1);
        x.word(0, 2, 0, 0);
        x.pair(0, 0, 1, 0);
        x.pair(1, 0, 2, 0);
        x.pair(2, 0, 0, 1);
        taken(x, "all at fault", y -> y.sets(), 4);
        x.pair(2, 0, 0, 0);
        // PAIRS 0 and 1 are AT FAULT by just a half, 2 by all, 3 by none.
        dueShare(x, 0, 1, 2);
        dueShare(x, 1, 1, 2);
        dueShare(x, 2, 1, 1);
        dueShare(x, 3, 0, 1);
        taken(x, "by just a half", y -> y.sets(), 2);
        taken(x, "over pairs at fault by a half", y -> y.alike(0, 0, 1, 0), 1);
        taken(x, "over a pair at fault", y -> y.alike(0, 1, 2, 0), 0);
        x.word(0, 4, 0, 0);
        x.pair(2, 0, 0, 2);
        // PAIRS 0 and 1 are AT FAULT by two thirds now.
        dueShare(x, 0, 2, 3);
        taken(x, "by more than a half", y -> y.sets(), 4);
        taken(x, "over pairs at fault by two thirds", y -> y.alike(0, 0, 1, 0), 0);
        taken(x, "over a pair that is not", y -> y.alike(0, 0, 2, 0), 1);
    }

    private static void setsOneBehindAnother() {
        says("SETS: WORDS that PAIRS lead to, one behind another, but PAIRS that are AT FAULT by more than a half: one SET.");
        NineTongues x = speaking(1, 1, 1, 1, 1, 1);
        x.pair(4, 0, 5, 0);
        x.pair(0, 0, 1, 0);
        x.pair(2, 0, 3, 0);
        taken(x, "sets()", y -> y.sets(), 3);
        taken(x, "alike(0, 0, 5, 0)", y -> y.alike(0, 0, 5, 0), 0);
        x.pair(3, 0, 4, 0);
        x.pair(1, 0, 2, 0);
        taken(x, "all in one", y -> y.sets(), 1);
        taken(x, "the first and the last", y -> y.alike(0, 0, 5, 0), 1);
        taken(x, "the last and the first", y -> y.alike(5, 0, 0, 0), 1);
    }

    private static void alikeAtOnce() {
        says("SETS: WORDS that PAIRS lead to, one behind another, but PAIRS that are AT FAULT by more than a half: one SET.");
        NineTongues x = speaking(1, 1, 1, 1, 1, 1);
        for (int i = 1; i < 8; i++) {
            x.word(0, 1, 0, 0);
            x.word(5, 1, 0, 0);
        }
        x.pair(0, 7, 5, 7);
        taken(x, "the last words", y -> y.alike(5, 7, 0, 7), 1);
        taken(x, "the last words, the other way", y -> y.alike(0, 7, 5, 7), 1);
        taken(x, "a word ahead", y -> y.alike(5, 6, 0, 7), 0);
        x.pair(0, 6, 5, 5);
        taken(x, "words of other numbers", y -> y.alike(5, 5, 0, 6), 1);
        taken(x, "a word of the same number", y -> y.alike(5, 6, 0, 6), 0);
        taken(x, "sets()", y -> y.sets(), 18);
        x = speaking(1, 1, 1);
        x.word(0, 2, 0, 0);
        x.pair(0, 0, 1, 0);
        x.pair(1, 0, 2, 0);
        x.pair(2, 0, 0, 1);
        taken(x, "by pairs at fault, as the first call", y -> y.alike(0, 0, 1, 0), 0);
    }

    private static void setsOfAnImage() {
        says("one that no PAIR leads to is one");
        NineTongues x = speaking(1, 1);
        x.image(0);
        x.pair(1, 0, 0, 0);
        taken(x, "with a pair", y -> y.sets(), 1);
        x.from(0);
        taken(x, "without it again", y -> y.sets(), 2);
        taken(x, "they are not alike", y -> y.alike(0, 0, 1, 0), 0);
    }

    private static void alikeNumbers() {
        says("Whether two WORDS are in one SET: 1, 0. BAD.");
        NineTongues x = speaking(1, 0);
        x.word(0, 1, 0, 0);
        for (int v : beside(0, 1)) {
            bad(x, "alike(" + v + ", 0, 0, 0)", y -> y.alike(v, 0, 0, 0));
            bad(x, "alike(0, " + v + ", 0, 0)", y -> y.alike(0, v, 0, 0));
            bad(x, "alike(0, 0, " + v + ", 0)", y -> y.alike(0, 0, v, 0));
            bad(x, "alike(0, 0, 0, " + v + ")", y -> y.alike(0, 0, 0, v));
        }
        bad(x, "a tongue without words", y -> y.alike(0, 0, 1, 0));
        bad(x, "a tongue without words ahead", y -> y.alike(1, 0, 0, 0));
        taken(x, "a word and itself", y -> y.alike(0, 1, 0, 1), 1);
        taken(x, "two words of one tongue", y -> y.alike(0, 0, 0, 1), 0);
    }

    // ---- Promise 33

    private static void part() {
        says("THE FRACTION: above (0), below (1). BAD.");
        NineTongues x = withFault();
        for (int v : beside(0, 1)) {
            bad(x, "part(" + v + ")", y -> y.part(v));
        }
        says("THE FRACTION is 0 by 1 at first; lowest terms, below above 0.");
        taken(x, "part(0)", y -> y.part(0), 0);
        taken(x, "part(1)", y -> y.part(1), 1);
    }

    // ---- Promises 34, 35

    private static void imageNumbers() {
        says("An IMAGE is kept: 1. BAD.");
        NineTongues x = fresh();
        for (int v : beside(0, 1)) {
            bad(x, "image(" + v + ")", y -> y.image(v));
        }
        says("It goes on from an IMAGE: 1. BAD; NO: none was kept.");
        for (int v : beside(0, 1)) {
            bad(x, "from(" + v + ")", y -> y.from(v));
        }
        no(x, "from(0)", y -> y.from(0));
        no(x, "from(1)", y -> y.from(1));
        taken(x, "image(1)", y -> y.image(1), 1);
        no(x, "from(0) still", y -> y.from(0));
        taken(x, "from(1) of what is empty", y -> y.from(1), 1);
        taken(x, "image(0)", y -> y.image(0), 1);
        taken(x, "from(0)", y -> y.from(0), 1);
    }

    private static void fillAll(NineTongues x) {
        x.put(0, 9);
        x.put(1, 8);
        for (int i = 0; i < 6; i++) {
            x.tongue(i, 15, i + 1);
            x.say(255 - i);
            x.end(i, i + 1);
        }
        for (int i = 0; i < 48; i++) {
            x.word(i / 8, i + 1, i % 10, 9 - i % 10);
        }
        for (int i = 0; i < 4; i++) {
            x.form(i, i % 2);
            x.endForm(i, i - 2);
        }
        path(x, "abcdef".repeat(10));
        for (int i = 0; i < 24; i++) {
            x.pair(i % 3 + 3, i / 3, i % 3, 7 - i / 3);
        }
    }

    /** As many of all, each another one. */
    private static void fillAllElse(NineTongues x) {
        x.put(0, 7);
        x.put(1, 6);
        for (int i = 0; i < 6; i++) {
            x.tongue(8, 8 + i, 14 - i);
            x.say(100 + i);
            x.end(i, 200 + i);
        }
        for (int i = 0; i < 48; i++) {
            x.word(i / 8, 255 - i, 9 - i % 10, i % 10);
        }
        for (int i = 0; i < 4; i++) {
            x.form(i, 1 - i % 2);
            x.endForm(i, 1 - i);
        }
        path(x, "fedcba".repeat(10));
        for (int i = 0; i < 24; i++) {
            x.pair(i % 3, i / 3, i % 3 + 3, i / 3);
        }
    }

    private static void imageOfAll() {
        says("IMAGES 0, 1 keep all but them, THE FRACTION and STATUS; it goes on from one.");
        NineTongues x = fresh();
        long empty = x.digest();
        x.image(1);
        fillAll(x);
        long whole = x.digest();
        int sets = x.sets();
        int far = x.unlike(0, 60);
        taken(x, "image(0)", y -> y.image(0), 1);
        taken(x, "from(1)", y -> y.from(1), 1);
        due("digest() of nothing", x.digest(), empty);
        fillAllElse(x);
        due("as many tongues", x.count(0), 6);
        due("as many pairs", x.count(3), 24);
        taken(x, "from(0)", y -> y.from(0), 1);
        due("digest() of all", x.digest(), whole);
        due("sets() of all", x.sets(), sets);
        due("unlike(0, 60) of all", x.unlike(0, 60), far);
    }

    private static void imageOfNothing() {
        says("IMAGES 0, 1 keep all but them, THE FRACTION and STATUS; it goes on from one.");
        NineTongues x = fresh();
        x.image(0);
        fillAll(x);
        x.image(1);
        x.from(0);
        due("hush()", x.hush(), 0);
        due("clear()", x.clear(), 0);
        taken(x, "a tongue again", y -> y.tongue(0, 0, 0), 0);
        due("its words", x.count(4), 0);
        taken(x, "a word again", y -> y.word(0, 1, 0, 0), 0);
        taken(x, "from(1)", y -> y.from(1), 1);
        full(x, "a tongue more", y -> y.tongue(0, 0, 0));
        full(x, "a word more", y -> y.word(5, 1, 0, 0));
        full(x, "a place more", y -> y.say(1));
        full(x, "a byte more", y -> y.type(32, 1));
        full(x, "a pair more", y -> y.pair(0, 0, 1, 0));
    }

    private static void imageStays() {
        says("IMAGES 0, 1 keep all but them, THE FRACTION and STATUS; it goes on from one.");
        NineTongues x = speaking(1);
        long kept = x.digest();
        x.image(0);
        x.word(0, 2, 0, 0);
        x.from(0);
        due("what comes behind is not kept", x.digest(), kept);
        x.word(0, 3, 0, 0);
        x.say(1);
        x.put(0, 0);
        x.from(0);
        due("nor what comes behind it was gone on from", x.digest(), kept);
        x.say(1);
        long more = x.digest();
        x.image(1);
        x.from(0);
        due("the other is not changed", x.digest(), kept);
        x.from(1);
        due("both are kept", x.digest(), more);
        x.image(0);
        x.hush();
        x.from(0);
        due("kept anew", x.digest(), more);
    }

    private static void imageOfWordNumbers() {
        says("IMAGES 0, 1 keep all but them, THE FRACTION and STATUS; it goes on from one.");
        NineTongues x = speaking(1, 1, 1, 1, 1, 1);
        x.image(0);
        for (int t = 0; t < 6; t++) {
            x.word(t, 2, 0, 0);
        }
        x.image(1);
        x.from(0);
        for (int t = 0; t < 6; t++) {
            due("count(" + (4 + t) + ") of the first", x.count(4 + t), 1);
        }
        x.from(1);
        for (int t = 0; t < 6; t++) {
            due("count(" + (4 + t) + ") of the second", x.count(4 + t), 2);
        }
    }

    private static void imageRefused() {
        says("Refused, changing nothing but STATUS");
        NineTongues x = speaking(1);
        long kept = x.digest();
        x.image(0);
        x.image(1);
        x.say(1);
        for (int v : beside(0, 1)) {
            bad(x, "image(" + v + ")", y -> y.image(v));
        }
        long later = x.digest();
        x.from(0);
        due("the first is not kept anew", x.digest(), kept);
        x.from(1);
        due("the second is not kept anew", x.digest(), kept);
        x.say(1);
        for (int v : beside(0, 1)) {
            bad(x, "from(" + v + ")", y -> y.from(v));
        }
        due("it has not gone on from one", x.digest(), later);
    }

    private static void imageWithoutFraction() {
        says("IMAGES 0, 1 keep all but them, THE FRACTION and STATUS; it goes on from one.");
        NineTongues x = withFault();
        x.image(0);
        x.say(0);
        x.atFault(0);
        x.image(1);
        x.say(256);
        x.length();
        x.from(0);
        due("part(0)", x.part(0), 1);
        due("part(1)", x.part(1), 2);
        due("status(0)", x.status(0), 2);
        due("status(1)", x.status(1), 1);
        x.atFault(3);
        x.from(1);
        due("part(0) again", x.part(0), 1);
        due("part(1) again", x.part(1), 1);
        due("status(0) again", x.status(0), 2);
    }

    // ---- Promise 36

    private static void status() {
        says("STATUS: BAD (0), NO (1), FULL (2). -1: another what (counts as BAD).");
        NineTongues x = fresh();
        for (int v : beside(0, 2)) {
            bad(x, "status(" + v + ")", y -> y.status(v), -1);
        }
        due("status(0)", x.status(0), 4);
        due("status(1)", x.status(1), 0);
        due("status(2)", x.status(2), 0);
    }

    private static void statusOfAllReasons() {
        says("(where others are told they count as these)");
        NineTongues x = speaking(0);
        bad(x, "cost", y -> y.cost(0, 0, 0, 0), -1000);
        bad(x, "form", y -> y.form(4, 0), -10);
        bad(x, "endForm", y -> y.endForm(4, 0), -10);
        bad(x, "bears", y -> y.bears(0, 1, 0), -10);
        bad(x, "status", y -> y.status(3), -1);
        refused(x, "bears without words", y -> y.bears(0, 0, 0), -20, 1);
        no(x, "formOf", y -> y.formOf(0, 4));
        x.word(0, 1, 0, 0);
        x.say(1);
        path(x, "a");
        bad(x, "formOf behind NO", y -> y.formOf(0, 4), -10);
        due("status(0)", x.status(0), 6);
        due("status(1)", x.status(1), 2);
        due("status(2)", x.status(2), 0);
    }

    private static void statusOfMany() {
        says("An object is used for at most 512 calls after it has been made");
        NineTongues x = fresh();
        for (int i = 0; i < 511; i++) {
            x.say(0);
        }
        due("511 times BAD", x.status(0), 511);
        x = fresh();
        for (int i = 0; i < 511; i++) {
            x.length();
        }
        due("511 times NO", x.status(1), 511);
        x = fresh();
        for (int i = 0; i < 511; i++) {
            x.say(1);
        }
        due("505 times FULL", x.status(2), 505);
    }

    // ---- Promises 37, 38

    private static void count() {
        says("4 and t WORDS of TONGUE t (4 .. 9; 0 where it is not there). BAD.");
        NineTongues x = fresh();
        for (int v : beside(0, 9)) {
            bad(x, "count(" + v + ")", y -> y.count(v));
        }
        for (int what = 4; what < 10; what++) {
            int asked = what;
            taken(x, "count(" + what + ") where it is not there", y -> y.count(asked), 0);
        }
        fillAll(x);
        int[] all = {6, 6, 60, 24, 8, 8, 8, 8, 8, 8};
        for (int what = 0; what < all.length; what++) {
            due("count(" + what + ") of all", x.count(what), all[what]);
        }
    }

    private static void digestOfAll() {
        says("h = 599; then h = 31 h + v for each v");
        NineTongues x = fresh();
        fillAll(x);
        long h = mix(599, 6, 6, 60, 24, 8, 8, 8, 8, 8, 8);
        for (int t = 0; t < 6; t++) {
            h = mix(h, t, 15, t + 1);
            for (int i = 8 * t; i < 8 * t + 8; i++) {
                h = mix(h, i + 1, i % 10, 9 - i % 10);
            }
        }
        h = mix(h, 9, 8, 255, 254, 253, 252, 251, 250, 0, 1, 0, 1);
        for (int i = 0; i < 60; i++) {
            h = mix(h, 'a' + i % 6);
        }
        h = mix(h, 1, 2, 3, 4, 5, 6, -2, NONE, 0, 1);
        for (int i = 0; i < 24; i++) {
            h = mix(h, i % 3 + 3, i / 3, i % 3, 7 - i / 3);
        }
        due("digest() of all, wrapped around", x.digest(), mix(h, 0, 1));
        due("digest() again", x.digest(), mix(h, 0, 1));
        x.which(0, 1, 0);
        due("digest() of a fraction", x.digest(), mix(h, x.part(0), x.part(1)));
    }

    private static void digestOfHushed() {
        says("PARTS of PLACES; FORMS (NONE: none); bytes of THE PATH");
        NineTongues x = fresh();
        long empty = x.digest();
        x.say(255);
        x.form(0, 1);
        x.type(-1L, 8);
        x.hush();
        x.clear();
        due("nothing is left", x.digest(), empty);
    }

    private static void hushedAndCleared() {
        NineTongues x = withFault();
        x.put(0, 5);
        x.end(0, 3);
        x.endForm(0, 1);
        path(x, "ab");
        long told = x.digest();
        says("THE SAYING has no PLACES, no FORMS: how many PLACES it had.");
        x.say(1);
        x.form(2, 0);
        x.hush();
        due("digest() behind hush: all else stays", x.digest(), told);
        says("THE PATH is empty: how many it had.");
        x.clear();
        x.say(1);
        long without = x.digest();
        path(x, "dcba");
        x.clear();
        due("digest() behind clear: all else stays", x.digest(), without);
    }

    private static void buildTests() {
        newObject();
        newObjectAsked();
        tongueBits();
        tongueMustBeyondCan();
        tongueFull();
        wordNumbers();
        wordFull();
        put();
        say();
        form();
        hush();
        costNumbers();
        costsOfNothing();
        costsOfMost();
        costOfTheLastWord();
        costsBelowNone();
        soundOfNone();
        soundOfWord();
        soundIsGoneWithPlaces();
        soundOfTheLastPlace();
        stepOfLikeOnes();
        stepOfForms();
        stepOfEachForm();
    }

    private static void pathTests() {
        typeBytes();
        typeFull();
        faultOfLetters();
        faultOfKinds();
        stepWithoutKind();
        faultOfRounds();
        faultOfBlanks();
        faultOfDepth();
        faultTooEarly();
        length();
        goingRefused();
        parts();
        lastOfTwoHundred();
        formOf();
        stepNumbers();
        stepOfAll();
        unlike();
        goneNumbers();
        goneAgain();
    }

    private static void bestTests() {
        bestNumbers();
        bestAccepted();
        bestOfLikeOnes();
        rowsByKind();
        bestOfMost();
        third();
        thirdOfLikeOnes();
        roundNumbers();
        roundFromTheSaying();
        roundOfMany();
        roundOfSounds();
        commonNumbers();
        commonOfNone();
        bearsNumbers();
        bearsOfEnds();
        bearsOfSounds();
        middle();
        end();
        endForm();
        whichNumbers();
        whichRefused();
        whichOfShares();
        whichByTheEnd();
        whichByEachForm();
        whichOfMost();
    }

    private static void dictionaryTests() {
        pairNumbers();
        pairFull();
        ringsNumbers();
        ringsOfTheLeast();
        ringsOfMost();
        atFault();
        atFaultOfTwoTriples();
        worst();
        worstOfLikeShares();
        worstByShare();
        setsOfNone();
        setsAtFault();
        setsOneBehindAnother();
        alikeAtOnce();
        setsOfAnImage();
        alikeNumbers();
    }

    private static void keepingTests() {
        part();
        imageNumbers();
        imageOfAll();
        imageOfNothing();
        imageStays();
        imageOfWordNumbers();
        imageRefused();
        imageWithoutFraction();
        status();
        statusOfAllReasons();
        statusOfMany();
        count();
        digestOfAll();
        digestOfHushed();
        hushedAndCleared();
    }

    public static void main(String[] args) {
        buildTests();
        pathTests();
        bestTests();
        dictionaryTests();
        keepingTests();
        System.out.println(wrong == 0 ? "all boundaries hold" : wrong + " answers are not as due");
        if (wrong != 0) {
            System.exit(1);
        }
    }
}
