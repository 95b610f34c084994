/** Each promise of the document with answers worked out by hand. */
public final class PromiseTests {
    private static final int NONE = -1, BAD = -2, NO = -3, FULL = -4;
    private static final int LEAST = Integer.MIN_VALUE, MOST = Integer.MAX_VALUE;
    private static int wrong = 0;
    private static int promise = 0;

    private static void due(String call, long got, long want) {
        if (got != want) {
            wrong++;
            System.out.println("promise " + promise + ": " + call + " answered " + got + ", due is " + want);
        }
    }

    private static void typeText(NineTongues x, String text) {
        for (int i = 0; i < text.length(); i++) {
            x.type(text.charAt(i), 1);
        }
    }

    private static void path(NineTongues x, String text) {
        x.clear();
        typeText(x, text);
    }

    private static void dueFault(NineTongues x, String text, int want) {
        path(x, text);
        due("fault of '" + text + "'", x.fault(), want);
    }

    private static void dueLength(NineTongues x, String text, int want) {
        path(x, text);
        due("length of '" + text + "'", x.length(), want);
    }

    private static long mix(long h, int... values) {
        long mixed = h;
        for (int v : values) {
            mixed = 31 * mixed + v;
        }
        return mixed;
    }

    /** TONGUES that say all FORMS they are told to; each with one WORD of the same PARTS. */
    private static NineTongues withTongues(int... parts) {
        NineTongues x = new NineTongues();
        for (int i = 0; i < parts.length; i++) {
            x.tongue(0, 15, 0);
            if (parts[i] > 0) {
                x.word(i, parts[i], 0, 0);
            }
        }
        return x;
    }

    private static void newObject() {
        promise = 1;
        NineTongues x = new NineTongues();
        for (int what = 0; what < 10; what++) {
            due("count", x.count(what), 0);
        }
        due("status(0)", x.status(0), 0);
        due("status(1)", x.status(1), 0);
        due("status(2)", x.status(2), 0);
        due("part(0)", x.part(0), 0);
        due("part(1)", x.part(1), 1);
        due("fault()", x.fault(), 0);
        due("sets()", x.sets(), 0);
        due("middle()", x.middle(), 0);
        due("worst()", x.worst(), NONE);
        due("put(0, 0)", x.put(0, 0), 2);
        due("put(1, 0)", x.put(1, 0), 1);
        for (int form = 0; form < 4; form++) {
            due("form", x.form(form, 0), NONE);
            due("endForm", x.endForm(form, 0), -2);
        }
        for (int place = 0; place < 6; place++) {
            due("end", x.end(place, 1), 0);
        }
        due("constants", mix(0, NineTongues.NONE, NineTongues.BAD, NineTongues.NO, NineTongues.FULL),
            mix(0, NONE, BAD, NO, FULL));
    }

    private static void tongue() {
        promise = 2;
        NineTongues x = new NineTongues();
        due("must beyond can", x.tongue(1, 2, 0), BAD);
        due("must 16", x.tongue(16, 31, 0), BAD);
        due("must -1", x.tongue(-1, 15, 0), BAD);
        due("can 16", x.tongue(0, 16, 0), BAD);
        due("can -1", x.tongue(0, -1, 0), BAD);
        due("leans 16", x.tongue(0, 0, 16), BAD);
        due("leans -1", x.tongue(0, 0, -1), BAD);
        due("extremes", x.tongue(LEAST, MOST, LEAST), BAD);
        due("the first", x.tongue(15, 15, 15), 0);
        due("leans to what it can not say", x.tongue(0, 0, 15), 1);
        for (int i = 2; i < 6; i++) {
            due("one more", x.tongue(0, 3, 0), i);
        }
        due("the seventh", x.tongue(0, 0, 0), FULL);
        due("BAD ahead of FULL", x.tongue(1, 0, 0), BAD);
        due("count(0)", x.count(0), 6);
        due("status(0)", x.status(0), 9);
        due("status(2)", x.status(2), 1);
    }

    private static void word() {
        promise = 3;
        NineTongues x = withTongues(0);
        due("no such tongue", x.word(1, 1, 0, 0), BAD);
        due("tongue -1", x.word(-1, 1, 0, 0), BAD);
        due("parts 0", x.word(0, 0, 0, 0), BAD);
        due("parts 256", x.word(0, 256, 0, 0), BAD);
        due("sound -1", x.word(0, 1, -1, 0), BAD);
        due("sound 10", x.word(0, 1, 10, 0), BAD);
        due("usual -1", x.word(0, 1, 0, -1), BAD);
        due("usual 10", x.word(0, 1, 0, 10), BAD);
        due("extremes", x.word(MOST, LEAST, MOST, LEAST), BAD);
        for (int i = 0; i < 8; i++) {
            due("one more", x.word(0, 255, 9, 9), i);
        }
        due("the ninth", x.word(0, 1, 0, 0), FULL);
        due("BAD ahead of FULL", x.word(0, 0, 0, 0), BAD);
        x.tongue(0, 0, 0);
        due("another tongue", x.word(1, 1, 0, 0), 0);
        due("count(4)", x.count(4), 8);
        due("count(5)", x.count(5), 1);
    }

    private static void put() {
        promise = 4;
        NineTongues x = new NineTongues();
        due("LOST", x.put(0, 9), 2);
        due("ADDED", x.put(1, 0), 1);
        due("what 2", x.put(2, 0), BAD);
        due("what -1", x.put(-1, 0), BAD);
        due("v 10", x.put(0, 10), BAD);
        due("v -1", x.put(1, -1), BAD);
        due("LOST again", x.put(0, 0), 9);
        due("ADDED again", x.put(1, 9), 0);
    }

    private static void say() {
        promise = 5;
        NineTongues x = new NineTongues();
        due("parts 0", x.say(0), BAD);
        due("parts 256", x.say(256), BAD);
        due("parts least", x.say(LEAST), BAD);
        for (int i = 0; i < 6; i++) {
            due("one more", x.say(i == 0 ? 1 : 255), i);
        }
        due("the seventh", x.say(1), FULL);
        due("BAD ahead of FULL", x.say(0), BAD);
        due("count(1)", x.count(1), 6);
    }

    private static void form() {
        promise = 6;
        NineTongues x = new NineTongues();
        due("1", x.form(3, 1), NONE);
        due("0", x.form(3, 0), 1);
        due("none", x.form(3, NONE), 0);
        due("none again", x.form(3, NONE), NONE);
        due("form 4", x.form(4, 0), -10);
        due("form -1", x.form(-1, 0), -10);
        due("value 2", x.form(0, 2), -10);
        due("value -2", x.form(0, -2), -10);
        due("it counts as BAD", x.status(0), 4);
    }

    private static void hush() {
        promise = 7;
        NineTongues x = new NineTongues();
        x.say(1);
        x.say(2);
        x.form(1, 1);
        due("hush", x.hush(), 2);
        due("count(1)", x.count(1), 0);
        due("form", x.form(1, 0), NONE);
        due("hush again", x.hush(), 0);
        due("say", x.say(4), 0);
    }

    private static void cost() {
        promise = 8;
        NineTongues x = withTongues(0);
        x.word(0, 6, 3, 4);
        x.say(3);
        x.say(6);
        int[] first = {3, 4, 5, -1, 4, 8};
        int[] same = {0, 0, 0, -4, 0, 0};
        for (int kind = 0; kind < 6; kind++) {
            due("of kind " + kind, x.cost(kind, 0, 0, 0), first[kind]);
            due("of kind " + kind + ", the same", x.cost(kind, 1, 0, 0), same[kind]);
        }
        x.put(0, 5);
        x.put(1, 3);
        int[] dearer = {8, 11, 13, 4, 11, 13};
        for (int kind = 0; kind < 6; kind++) {
            due("of kind " + kind + ", dearer", x.cost(kind, 0, 0, 0), dearer[kind]);
        }
        due("kind -1", x.cost(-1, 0, 0, 0), -1000);
        due("kind 6", x.cost(6, 0, 0, 0), -1000);
        due("place 2", x.cost(0, 2, 0, 0), -1000);
        due("place -1", x.cost(0, -1, 0, 0), -1000);
        due("tongue 1", x.cost(0, 0, 1, 0), -1000);
        due("word 1", x.cost(0, 0, 0, 1), -1000);
        due("word least", x.cost(0, 0, 0, LEAST), -1000);
        due("they count as BAD", x.status(0), 7);
    }

    private static void type() {
        promise = 9;
        NineTongues x = withTongues(1);
        due("two bytes", x.type(0x6130, 2), 2);
        due("the highest first", x.fault(), NONE);
        x.clear();
        due("the lowest one", x.type(0x6130, 1), 1);
        due("a digit", x.fault(), 0);
        due("n 0", x.type(0, 0), BAD);
        due("n 9", x.type(0, 9), BAD);
        due("n least", x.type(0, LEAST), BAD);
        for (int i = 0; i < 7; i++) {
            due("eight", x.type(-1L, 8), 9 + 8 * i);
        }
        due("too many", x.type(0, 4), FULL);
        due("not a part of them", x.count(2), 57);
        due("the last three", x.type(0, 3), 60);
        due("full", x.type(0, 1), FULL);
        due("BAD ahead of FULL", x.type(0, 9), BAD);
    }

    private static void clear() {
        promise = 10;
        NineTongues x = withTongues(1);
        typeText(x, "a b");
        due("clear", x.clear(), 3);
        due("clear again", x.clear(), 0);
        due("count(2)", x.count(2), 0);
        typeText(x, "a");
        due("nothing is left", x.length(), 1);
    }

    private static void fault() {
        promise = 11;
        NineTongues x = withTongues(1, 1, 0);
        String[] right = {"a", "b", "a0", "a5", "ab1a2", " a ", "a 3", "(a)1", "(a)9", "( a 1 ) 2 ", "((((a)1)1)1)1",
            "(a)2(b)3", "a(b)1a", "((a)1)1((b)1)1", "(a)2b", "(a)2((((b)1)1)1)1"};
        for (String text : right) {
            dueFault(x, text, NONE);
        }
        dueFault(x, "", 0);
        dueFault(x, "  ", 2);
        dueFault(x, "c", 0);
        dueFault(x, "d", 0);
        dueFault(x, "g", 0);
        dueFault(x, "A", 0);
        dueFault(x, "0", 0);
        dueFault(x, ")", 0);
        dueFault(x, "a6", 1);
        dueFault(x, "a00", 2);
        dueFault(x, "a0 0", 3);
        dueFault(x, "a)", 1);
        dueFault(x, "()1", 1);
        dueFault(x, "(1", 1);
        dueFault(x, "(a", 2);
        dueFault(x, "(a)", 3);
        dueFault(x, "(a) ", 4);
        dueFault(x, "(a)0", 3);
        dueFault(x, "(a)a", 3);
        dueFault(x, "(a)(", 3);
        dueFault(x, "(a))", 3);
        dueFault(x, "(a)11", 4);
        dueFault(x, "(a)1)", 4);
        dueFault(x, "(((((", 4);
        dueFault(x, "((((a)1)1)1)1(((((", 17);
        dueFault(x, "(((((a)1)1)1)1)1", 4);
        dueFault(x, "a\tb", 1);
        dueFault(x, "ab\u00ff", 2);
        x.word(2, 1, 0, 0);
        dueFault(x, "c", NONE);
    }

    private static void length() {
        promise = 12;
        NineTongues x = withTongues(1, 1);
        dueLength(x, "a", 1);
        dueLength(x, "a1b", 2);
        dueLength(x, "(ab)3", 6);
        dueLength(x, "a(b(a)2)3b", 11);
        dueLength(x, "((aaaaa)5)8", 200);
        dueLength(x, "((aaaaa)5)8a", NO);
        dueLength(x, "((((a)9)9)9)9", NO);
        dueLength(x, "((((aaaaaaaaaaaaaaaaaaaaaaaaaaaaaaaaaaaaaaaaaaaaa)9)9)9)9", NO);
        dueLength(x, "((aaaaa)5)8(b)1", NO);
        dueLength(x, "", NO);
        dueLength(x, "(a)", NO);
        due("status(1)", x.status(1), 6);
    }

    /** TONGUES: a can not say FORM 1 and guesses FORM 0; b says all. */
    private static NineTongues withPath() {
        NineTongues x = new NineTongues();
        x.tongue(5, 5, 1);
        x.tongue(0, 15, 0);
        x.word(0, 1, 2, 0);
        x.word(0, 24, 0, 0);
        x.word(1, 1, 9, 0);
        x.word(1, 3, 2, 0);
        x.word(1, 16, 0, 1);
        x.say(1);
        x.say(28);
        x.form(1, 0);
        x.form(3, 1);
        path(x, "a b4 b");
        return x;
    }

    private static void parts() {
        promise = 13;
        NineTongues x = withPath();
        int[][] want = {{1, 28}, {1, 24}, {3, 16}, {3, 16}};
        for (int state = 0; state < 4; state++) {
            due("place 0 in " + state, x.parts(state, 0), want[state][0]);
            due("place 1 in " + state, x.parts(state, 1), want[state][1]);
        }
        path(x, "b4");
        due("without a sound", x.parts(1, 0), 1);
        due("state -1", x.parts(-1, 0), BAD);
        due("state 2", x.parts(2, 0), BAD);
        due("place -1", x.parts(0, -1), BAD);
        due("place 2", x.parts(0, 2), BAD);
        x.hush();
        due("no places", x.parts(0, 0), NO);
        due("NO ahead of BAD", x.parts(-1, 0), NO);
        x.say(1);
        x.clear();
        due("a fault", x.parts(0, 0), NO);
        typeText(x, "((((a)9)9)9)9");
        due("too long", x.parts(0, 0), NO);

        x = withTongues(1, 3);
        x.say(1);
        path(x, "((aaaaa)8)4(a)9(a)9(a)9(a)9aaab");
        due("the longest path", x.length(), 200);
        due("behind step 199", x.parts(199, 0), 1);
        due("behind step 200", x.parts(200, 0), 3);
        due("added in step 200", x.step(200, 1), 1);
        due("state 201", x.parts(201, 0), BAD);

        x = withTongues(0);
        x.word(0, 2, 0, 1);
        x.word(0, 4, 0, 3);
        x.word(0, 8, 0, 3);
        x.say(1);
        path(x, "a");
        due("of like ones the most usual, then the least", x.parts(1, 0), 4);
    }

    private static void formOf() {
        promise = 14;
        NineTongues x = withPath();
        int[][] want = {{NONE, 0, NONE, 1}, {1, NONE, 0, NONE}, {1, NONE, 0, NONE}};
        for (int state = 0; state < 3; state++) {
            for (int form = 0; form < 4; form++) {
                due("form " + form + " in " + state, x.formOf(state, form), want[state][form]);
            }
        }
        due("state 4", x.formOf(4, 0), -10);
        due("state -1", x.formOf(-1, 0), -10);
        due("form 4", x.formOf(0, 4), -10);
        due("form -1", x.formOf(0, -1), -10);
        path(x, "ba");
        due("b leaves it", x.formOf(1, 1), 0);
        x.clear();
        due("NO ahead of BAD", x.formOf(-1, 9), NO);
        due("status(0)", x.status(0), 4);
    }

    private static void step() {
        promise = 15;
        NineTongues x = withPath();
        int[][] want = {{1, 0, 2, 2}, {1, 1, 0, 0}, {0, 0, 0, 0}};
        for (int step = 1; step < 4; step++) {
            for (int what = 0; what < 4; what++) {
                due("step(" + step + ", " + what + ")", x.step(step, what), want[step - 1][what]);
            }
        }
        due("step 0", x.step(0, 0), BAD);
        due("step 4", x.step(4, 0), BAD);
        due("what 4", x.step(1, 4), BAD);
        due("what -1", x.step(1, -1), BAD);
        x.hush();
        due("NO ahead of BAD", x.step(0, 0), NO);
    }

    private static void unlike() {
        promise = 16;
        NineTongues x = withPath();
        due("0, 0", x.unlike(0, 0), 0);
        due("0, 1", x.unlike(0, 1), 5);
        due("1, 0", x.unlike(1, 0), 5);
        due("0, 3", x.unlike(0, 3), 7);
        due("2, 3", x.unlike(2, 3), 0);
        due("-1", x.unlike(-1, 0), BAD);
        due("4", x.unlike(0, 4), BAD);
        x.clear();
        due("NO ahead of BAD", x.unlike(-1, 0), NO);
    }

    private static void gone() {
        promise = 17;
        NineTongues x = withPath();
        due("kept", x.gone(0, 0), NONE);
        due("added", x.gone(0, 1), NONE);
        due("lost in the first", x.gone(1, 2), 1);
        due("lost in the second", x.gone(1, 3), 2);
        due("never there", x.gone(0, 7), 0);
        due("place 2", x.gone(2, 0), BAD);
        due("place -1", x.gone(-1, 0), BAD);
        due("part 8", x.gone(0, 8), BAD);
        due("part -1", x.gone(0, -1), BAD);
        path(x, "a b4 a b4 a a");
        due("lost for good later", x.gone(0, 1), 5);
        x.hush();
        due("NO ahead of BAD", x.gone(-1, -1), NO);
    }

    /** Straight into TONGUE 0 more is added than over TONGUE 1, which leaves all but one PART. */
    private static NineTongues withDetour() {
        NineTongues x = withTongues(63, 4, 0);
        x.word(0, 4, 0, 0);
        x.say(3);
        return x;
    }

    private static void best() {
        promise = 18;
        NineTongues x = withDetour();
        due("over none", x.best(0, 0, 0, NONE), 4);
        due("over one", x.best(0, 0, 1, NONE), 3);
        due("the one", x.best(0, 0, 1, 0), 1);
        due("over two", x.best(0, 0, 2, NONE), 3);
        due("the first row's first", x.best(0, 0, 2, 0), 0);
        due("the first row's second", x.best(0, 0, 2, 1), 1);
        due("over three", x.best(0, 0, 3, 2), 1);
        due("kind 6", x.best(6, 0, 0, NONE), BAD);
        due("b 3", x.best(0, 3, 0, NONE), BAD);
        due("b -1", x.best(0, -1, 0, NONE), BAD);
        due("m 4", x.best(0, 0, 4, NONE), BAD);
        due("m -1", x.best(0, 0, -1, NONE), BAD);
        due("m least", x.best(0, 0, LEAST, NONE), BAD);
        due("i is m", x.best(0, 0, 2, 2), BAD);
        due("i -2", x.best(0, 0, 2, -2), BAD);
        due("i 0 of none", x.best(0, 0, 0, 0), BAD);
        due("b has no words", x.best(0, 2, 0, NONE), NO);
        x.form(0, 1);
        due("forms stay", x.best(0, 0, 0, NONE), 4);
        x.hush();
        due("no places", x.best(0, 0, 0, NONE), NO);
        due("BAD ahead of NO", x.best(0, 0, 0, 0), BAD);
    }

    private static void third() {
        promise = 19;
        NineTongues x = withDetour();
        due("better", x.third(0, 0), 1);
        due("as good", x.third(0, 1), 0);
        due("as good, narrowed", x.third(1, 0), 0);
        due("kind -1", x.third(-1, 0), BAD);
        due("b 3", x.third(0, 3), BAD);
        due("b has no words", x.third(0, 2), NO);
        x.hush();
        due("no places", x.third(0, 0), NO);
        due("BAD ahead of NO", x.third(0, 9), BAD);
    }

    private static void round() {
        promise = 20;
        NineTongues x = withTongues(0, 0, 0);
        x.word(0, 2, 0, 0);
        x.word(0, 6, 0, 0);
        x.word(1, 3, 0, 0);
        x.word(1, 6, 0, 9);
        x.say(1);
        due("behind how many", x.round(0, 0, 1, 0), 2);
        due("after how many", x.round(0, 0, 1, 1), 1);
        due("one tongue", x.round(0, 0, 0, 0), 1);
        due("kind 6", x.round(6, 0, 1, 0), BAD);
        due("a 3", x.round(0, 3, 1, 0), BAD);
        due("t -1", x.round(0, 0, -1, 0), BAD);
        due("what 2", x.round(0, 0, 1, 2), BAD);
        due("what -1", x.round(0, 0, 1, -1), BAD);
        due("a has no words", x.round(0, 2, 1, 0), NO);
        due("t has no words", x.round(0, 0, 2, 0), NO);
        x.hush();
        due("no places", x.round(0, 0, 1, 0), NO);
        due("BAD ahead of NO", x.round(0, 0, 1, 2), BAD);
        x.say(2);
        due("the saying has no sound", x.round(0, 0, 0, 0), 1);
    }

    private static void common() {
        promise = 21;
        NineTongues x = withTongues(3, 6, 0);
        x.say(7);
        x.say(1);
        due("of two tongues", x.common(0, 0), 2);
        x.word(0, 5, 0, 1);
        due("the words that are taken", x.common(0, 0), 4);
        due("another place", x.common(0, 1), 4);
        due("kind 6", x.common(6, 0), BAD);
        due("place 2", x.common(0, 2), BAD);
        due("place -1", x.common(0, -1), BAD);
        x = withTongues(0, 0);
        x.say(1);
        due("no words", x.common(0, 0), NO);
        due("BAD ahead of NO", x.common(0, 1), BAD);
    }

    private static void bears() {
        promise = 22;
        NineTongues x = withTongues(1, 1, 0);
        x.word(0, 2, 0, 0);
        x.word(1, 3, 0, 0);
        due("how many", x.bears(0, 0, NONE), 1);
        due("the only one", x.bears(0, 0, 0), 1);
        due("not so many", x.bears(0, 0, 1), -5);
        due("not so many", x.bears(0, 0, MOST), -5);
        due("that is no refusal", x.status(0) + x.status(1) + x.status(2), 0);
        x.word(0, 2, 0, 5);
        due("the more usual comes back", x.bears(0, 0, NONE), 2);
        due("the second", x.bears(0, 0, 1), 2);
        due("kind 6", x.bears(6, 0, NONE), -10);
        due("a 3", x.bears(0, 3, NONE), -10);
        due("i -2", x.bears(0, 0, -2), -10);
        due("a has no words", x.bears(0, 2, NONE), -20);
        due("BAD ahead of NO", x.bears(0, 2, -2), -10);
        due("status(0)", x.status(0), 4);
        due("status(1)", x.status(1), 1);
    }

    private static void middle() {
        promise = 23;
        NineTongues x = withTongues(5);
        due("one word", x.middle(), 0);
        x.tongue(0, 0, 0);
        x.word(1, 5, 1, 1);
        due("like ones", x.middle(), 0);
        x.word(1, 6, 0, 0);
        due("the least of two", x.middle(), 1);
        x.word(0, 9, 0, 0);
        due("two parts", x.middle(), 5);
        for (int part = 0; part < 8; part++) {
            x.tongue(0, 0, 0);
            x.word(part % 4 + 2, 1 << part, 0, 0);
        }
        due("all but one", Integer.bitCount(x.middle()), 7);
    }

    private static void end() {
        promise = 24;
        NineTongues x = new NineTongues();
        due("place 5", x.end(5, 255), 0);
        due("not looked at", x.end(5, 0), 255);
        due("again", x.end(5, 1), 0);
        due("place 6", x.end(6, 1), BAD);
        due("place -1", x.end(-1, 1), BAD);
        due("parts 256", x.end(0, 256), BAD);
        due("parts -1", x.end(0, -1), BAD);
        due("nothing changed", x.end(0, 0), 0);
    }

    private static void endForm() {
        promise = 25;
        NineTongues x = new NineTongues();
        due("1", x.endForm(3, 1), -2);
        due("0", x.endForm(3, 0), 1);
        due("none", x.endForm(3, NONE), 0);
        due("not looked at", x.endForm(3, -2), NONE);
        due("form 4", x.endForm(4, 0), -10);
        due("form -1", x.endForm(-1, 0), -10);
        due("value 2", x.endForm(0, 2), -10);
        due("value -3", x.endForm(0, -3), -10);
        due("status(0)", x.status(0), 4);
    }

    private static void which() {
        promise = 26;
        NineTongues x = withTongues(1, 2, 3, 0);
        x.tongue(0, 0, 0);
        x.word(4, 3, 0, 0);
        x.say(1);
        x.form(0, 1);
        due("all", x.which(0, 1, NONE), 4);
        due("all of four", x.which(0, 4, NONE), 256);
        x.end(0, 3);
        due("by parts", x.which(0, 2, NONE), 8);
        due("share", x.which(0, 2, 0), 1);
        due("above", x.part(0), 1);
        due("below", x.part(1), 4);
        x.endForm(0, 1);
        due("by forms too", x.which(0, 2, NONE), 3);
        due("none begin so", x.which(0, 2, 4), 1);
        due("above", x.part(0), 0);
        due("below", x.part(1), 1);
        x.endForm(0, NONE);
        due("none", x.which(0, 1, NONE), 1);
        due("the fifth", x.which(0, 1, 4), 1);
        due("above", x.part(0), 1);
        due("below", x.part(1), 1);
        x.end(5, 77);
        due("a place that is not there", x.which(0, 1, NONE), 1);
        x.end(0, 4);
        due("there are none", x.which(0, 1, NONE), 0);
        due("no share", x.which(0, 1, 0), NO);
        due("the fraction stays", x.part(0), 1);
        due("t has no words", x.which(0, 1, 3), NO);
        due("t 5", x.which(0, 1, 5), BAD);
        due("t -2", x.which(0, 1, -2), BAD);
        due("m 0", x.which(0, 0, NONE), BAD);
        due("m 5", x.which(0, 5, NONE), BAD);
        due("kind 6", x.which(6, 1, NONE), BAD);
        x.hush();
        due("no places", x.which(0, 1, NONE), NO);
        due("BAD ahead of NO", x.which(0, 0, NONE), BAD);
    }

    private static void pair() {
        promise = 27;
        NineTongues x = withTongues(1, 1, 1);
        due("the first", x.pair(0, 0, 1, 0), 0);
        due("there already", x.pair(0, 0, 1, 0), BAD);
        due("there the other way", x.pair(1, 0, 0, 0), BAD);
        due("one tongue", x.pair(0, 0, 0, 0), BAD);
        due("no such word", x.pair(0, 1, 1, 0), BAD);
        due("no such other word", x.pair(0, 0, 1, 1), BAD);
        due("no such tongue", x.pair(3, 0, 1, 0), BAD);
        due("word -1", x.pair(0, -1, 1, 0), BAD);
        due("the second", x.pair(2, 0, 0, 0), 1);
        x = withTongues(0, 0);
        for (int word = 0; word < 8; word++) {
            x.word(0, 1, 0, 0);
            x.word(1, 1, 0, 0);
        }
        for (int i = 0; i < 24; i++) {
            due("one more", x.pair(1, i % 8, 0, i / 8), i);
        }
        due("the last again", x.pair(0, 2, 1, 7), BAD);
        due("the next", x.pair(1, 0, 0, 3), FULL);
        due("count(3)", x.count(3), 24);
    }

    /** A triangle, and an edge into its first TONGUE that does not come home. */
    private static NineTongues withRings() {
        NineTongues x = withTongues(1, 1, 1, 1);
        x.word(0, 2, 0, 0);
        x.pair(1, 0, 0, 0);
        x.pair(1, 0, 2, 0);
        x.pair(2, 0, 0, 0);
        return x;
    }

    private static void rings() {
        promise = 28;
        NineTongues x = withTongues(1, 1, 1, 1);
        due("none", x.rings(0), 0);
        x = withRings();
        due("both ways round", x.rings(0), 2);
        due("both come home", x.rings(1), 2);
        x.pair(2, 0, 0, 1);
        due("four", x.rings(0), 4);
        due("two come home", x.rings(1), 2);
        x.pair(3, 0, 1, 0);
        due("no ring more", x.rings(0), 4);
        x.pair(3, 0, 2, 0);
        due("a ring of the others", x.rings(0), 6);
        due("it comes home", x.rings(1), 4);
        due("what 2", x.rings(2), BAD);
        due("what -1", x.rings(-1), BAD);
    }

    private static void dueShare(NineTongues x, int pair, int above, int below) {
        due("atFault(" + pair + ")", x.atFault(pair), 1);
        due("above of " + pair, x.part(0), above);
        due("below of " + pair, x.part(1), below);
    }

    private static void atFault() {
        promise = 29;
        NineTongues x = withRings();
        dueShare(x, 0, 0, 1);
        x.pair(2, 0, 0, 1);
        dueShare(x, 0, 1, 2);
        dueShare(x, 2, 0, 1);
        dueShare(x, 3, 1, 1);
        x.pair(3, 0, 1, 0);
        due("in none", x.atFault(4), NO);
        due("the fraction stays", x.part(0), 1);
        x.pair(3, 0, 2, 0);
        dueShare(x, 1, 1, 3);
        due("no such pair", x.atFault(6), BAD);
        due("pair -1", x.atFault(-1), BAD);
    }

    private static void worst() {
        promise = 30;
        NineTongues x = withTongues(1, 1, 1, 1);
        x.pair(3, 0, 0, 0);
        due("in no ring", x.worst(), NONE);
        x.word(0, 2, 0, 0);
        x.pair(1, 0, 0, 0);
        x.pair(1, 0, 2, 0);
        x.pair(2, 0, 0, 0);
        due("the least of like ones", x.worst(), 1);
        x.pair(2, 0, 0, 1);
        due("the greatest", x.worst(), 4);
    }

    private static void sets() {
        promise = 31;
        NineTongues x = withTongues(1, 1, 1, 1);
        due("each its own", x.sets(), 4);
        x = withRings();
        due("three in one", x.sets(), 3);
        x.pair(2, 0, 0, 1);
        due("one at fault", x.sets(), 3);
        x.pair(3, 0, 0, 1);
        due("one in no ring", x.sets(), 2);
        x = withTongues(1, 1, 1);
        x.word(0, 2, 0, 0);
        x.pair(0, 0, 1, 0);
        x.pair(1, 0, 2, 0);
        x.pair(2, 0, 0, 1);
        due("all at fault", x.sets(), 4);
        x.pair(2, 0, 0, 0);
        x.pair(0, 1, 1, 0);
        due("at fault by a half", x.sets(), 1);
    }

    private static void alike() {
        promise = 32;
        NineTongues x = withRings();
        x.pair(2, 0, 0, 1);
        x.pair(3, 0, 0, 1);
        due("with itself", x.alike(0, 0, 0, 0), 1);
        due("one behind another", x.alike(0, 0, 2, 0), 1);
        due("by a pair at fault", x.alike(0, 1, 2, 0), 0);
        due("by a pair in no ring", x.alike(0, 1, 3, 0), 1);
        due("one tongue", x.alike(0, 0, 0, 1), 0);
        due("no such word", x.alike(0, 2, 0, 0), BAD);
        due("no such other word", x.alike(0, 0, 0, 2), BAD);
        due("no such tongue", x.alike(4, 0, 0, 0), BAD);
        due("extremes", x.alike(LEAST, MOST, MOST, LEAST), BAD);
    }

    private static void part() {
        promise = 33;
        NineTongues x = withRings();
        x.pair(2, 0, 0, 1);
        x.atFault(0);
        due("above", x.part(0), 1);
        due("below", x.part(1), 2);
        due("what 2", x.part(2), BAD);
        due("what -1", x.part(-1), BAD);
    }

    private static void images() {
        promise = 34;
        NineTongues x = withRings();
        due("i 2", x.image(2), BAD);
        due("i -1", x.image(-1), BAD);
        due("none kept", x.from(1), NO);
        long before = x.digest();
        due("kept", x.image(1), 1);
        due("the other was not", x.from(0), NO);
        promise = 35;
        x.tongue(0, 0, 0);
        x.word(4, 1, 0, 0);
        x.put(0, 7);
        x.say(9);
        x.form(0, 0);
        x.end(0, 4);
        x.endForm(0, 1);
        typeText(x, "ab");
        x.pair(2, 0, 0, 1);
        long behind = x.digest();
        due("the other", x.image(0), 1);
        due("back", x.from(1), 1);
        due("as it was", x.digest(), before);
        due("count(8)", x.count(8), 0);
        due("a word is added again", x.tongue(0, 0, 0), 4);
        due("without words", x.count(8), 0);
        due("forth", x.from(0), 1);
        due("as it was then", x.digest(), behind);
        x.atFault(3);
        due("back again", x.from(1), 1);
        due("the fraction stays", x.part(0), 1);
        due("status stays", x.status(1), 2);
        due("status(0) stays", x.status(0), 2);
        x.say(1);
        due("kept once more", x.image(1), 1);
        x.hush();
        x.from(1);
        due("the newer one", x.count(1), 1);
        due("i 2", x.from(2), BAD);
        due("i -1", x.from(-1), BAD);
    }

    private static void status() {
        promise = 36;
        NineTongues x = new NineTongues();
        x.say(0);
        x.form(9, 9);
        x.cost(0, 0, 0, 0);
        x.bears(0, 0, 0);
        due("BAD", x.status(0), 4);
        due("what 3", x.status(3), -1);
        due("what -1", x.status(-1), -1);
        due("it counts", x.status(0), 6);
        x.length();
        x.from(0);
        due("NO", x.status(1), 2);
        for (int i = 0; i < 8; i++) {
            x.say(1);
        }
        due("FULL", x.status(2), 2);
    }

    private static void count() {
        promise = 37;
        NineTongues x = withRings();
        x.say(1);
        x.say(1);
        typeText(x, "abc");
        due("tongues", x.count(0), 4);
        due("places", x.count(1), 2);
        due("bytes", x.count(2), 3);
        due("pairs", x.count(3), 3);
        due("words of 0", x.count(4), 2);
        due("words of 3", x.count(7), 1);
        due("words of none", x.count(9), 0);
        due("what 10", x.count(10), BAD);
        due("what -1", x.count(-1), BAD);
    }

    private static void digest() {
        promise = 38;
        NineTongues x = new NineTongues();
        long empty = mix(599, 0, 0, 0, 0, 0, 0, 0, 0, 0, 0, 2, 1, NONE, NONE, NONE, NONE, 0, 0, 0, 0, 0, 0, -2, -2, -2, -2);
        due("of a new object", x.digest(), mix(empty, 0, 1));
        x.tongue(1, 3, 5);
        x.tongue(0, 15, 9);
        x.word(0, 7, 8, 9);
        x.word(1, 255, 2, 3);
        x.word(1, 4, 5, 6);
        x.put(0, 4);
        x.put(1, 8);
        x.say(17);
        x.form(2, 1);
        x.type(0x61ff, 2);
        x.end(3, 200);
        x.endForm(1, NONE);
        x.pair(1, 1, 0, 0);
        x.pair(0, 0, 1, 0);
        long h = mix(599, 2, 1, 2, 2, 1, 2, 0, 0, 0, 0);
        h = mix(h, 1, 3, 5, 7, 8, 9, 0, 15, 9, 255, 2, 3, 4, 5, 6, 4, 8);
        h = mix(h, 17, NONE, NONE, 1, NONE, 0x61, 0xff, 0, 0, 0, 200, 0, 0, -2, NONE, -2, -2);
        h = mix(h, 1, 1, 0, 0, 0, 0, 1, 0);
        due("of all", x.digest(), mix(h, 0, 1));
        x.which(0, 1, 0);
        x.endForm(1, -2);
        x.end(3, 0);
        x.which(0, 1, 0);
        x.end(3, 200);
        x.endForm(1, NONE);
        due("of the fraction", x.digest(), mix(h, 1, 2));
    }

    public static void main(String[] args) {
        newObject();
        tongue();
        word();
        put();
        say();
        form();
        hush();
        cost();
        type();
        clear();
        fault();
        length();
        parts();
        formOf();
        step();
        unlike();
        gone();
        best();
        third();
        round();
        common();
        bears();
        middle();
        end();
        endForm();
        which();
        pair();
        rings();
        atFault();
        worst();
        sets();
        alike();
        part();
        images();
        status();
        count();
        digest();
        System.out.println(wrong == 0 ? "all promises hold" : wrong + " answers are not as due");
        if (wrong != 0) {
            System.exit(1);
        }
    }
}
