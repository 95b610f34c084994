import java.util.Arrays;

/** A saying through nine tongues; the numbered promises stand in the document, ../shared/DOC.md. */
public final class NineTongues {
    public static final int NONE = -1, BAD = -2, NO = -3, FULL = -4;

    private static final int TONGUES = 6, WORDS = 8, ALL_WORDS = TONGUES * WORDS;
    private static final int PLACES = 6, FORMS = 4, PARTS = 8, ALL_PARTS = 255, ALL_FORMS = 15;
    private static final int LOSS = 0, NARROWED = 1, WIDENED = 2, USUAL = 3, SOUNDED = 4, EXACT = 5, KINDS = 6;
    private static final int BYTES = 60, BYTES_AT_ONCE = 8, BITS = 8, DEEPEST = 4, STEPS = 200, PAIRS = 24, IMAGES = 2, HIGHEST = 9;
    private static final int MOST_OVER = 3, LONGEST_ROW = 4, MOST_ROWS = 10000, MOST_ROUNDS = 1000;
    private static final int MOST_UNLIKE = 1000, MOST_DIVISIONS = 100;
    private static final int FIRST_HASH = 599, NOT_LOOKED_AT = -2;
    private static final int BAD_FORM = -10, BAD_COST = -1000, BAD_BEARS = -10, NO_BEARS = -20, NOT_SO_MANY = -5;
    private static final int COUNTS = 10, FIRST_WORD_COUNT = 4;

    private final Stock stock = new Stock();
    private final Stock[] images = new Stock[IMAGES];
    private final boolean[] kept = new boolean[IMAGES];
    private final int[] refusals = new int[3];
    private int above = 0;
    private int below = 1;
    private final Route route = new Route();
    private final Rows rows = new Rows();
    /** By their first TONGUE. */
    private final int[] rowsToEnd = new int[TONGUES];
    private final Rings tally = new Rings();
    private final State now = new State();
    private final State then = new State();

    public NineTongues() {
        for (int i = 0; i < IMAGES; i++) {
            images[i] = new Stock();
        }
    }

    // ---- tongues, sayings

    public int tongue(int must, int can, int leans) {
        boolean told = isIn(must, 0, ALL_FORMS) && isIn(can, 0, ALL_FORMS) && isIn(leans, 0, ALL_FORMS);
        if (!told || (must & ~can) != 0) {
            return refuse(BAD);
        }
        if (stock.lexicon.tongues >= TONGUES) {
            return refuse(FULL);
        }
        return stock.lexicon.addTongue(must, can, leans);
    }

    public int word(int tongue, int parts, int sound, int usual) {
        boolean told = isIn(parts, 1, ALL_PARTS) && isIn(sound, 0, HIGHEST) && isIn(usual, 0, HIGHEST);
        if (!told || !stock.lexicon.hasTongue(tongue)) {
            return refuse(BAD);
        }
        if (stock.lexicon.words[tongue] >= WORDS) {
            return refuse(FULL);
        }
        return stock.lexicon.addWord(tongue, parts, sound, usual);
    }

    public int put(int what, int v) {
        if (!isIn(what, 0, 1) || !isIn(v, 0, HIGHEST)) {
            return refuse(BAD);
        }
        int was = what == 0 ? stock.lexicon.lost : stock.lexicon.added;
        if (what == 0) {
            stock.lexicon.lost = v;
        } else {
            stock.lexicon.added = v;
        }
        return was;
    }

    public int say(int parts) {
        if (!isIn(parts, 1, ALL_PARTS)) {
            return refuse(BAD);
        }
        if (stock.saying.places >= PLACES) {
            return refuse(FULL);
        }
        return stock.saying.addPlace(parts);
    }

    public int form(int form, int value) {
        if (!isIn(form, 0, FORMS - 1) || !isIn(value, NONE, 1)) {
            return refuse(BAD, BAD_FORM);
        }
        int was = stock.saying.forms[form];
        stock.saying.forms[form] = value;
        return was;
    }

    public int hush() {
        int had = stock.saying.places;
        stock.saying.empty();
        return had;
    }

    public int cost(int kind, int place, int tongue, int word) {
        if (!isKind(kind) || !isPlace(place) || !stock.lexicon.hasWord(tongue, word)) {
            return refuse(BAD, BAD_COST);
        }
        State saying = stock.saying;
        return stock.lexicon.costOf(kind, saying.parts[place], saying.sounds[place], tongue * WORDS + word);
    }

    // ---- paths

    public int type(long v, int n) {
        if (!isIn(n, 1, BYTES_AT_ONCE)) {
            return refuse(BAD);
        }
        if (stock.path.size + n > BYTES) {
            return refuse(FULL);
        }
        stock.path.add(v, n);
        return stock.path.size;
    }

    public int clear() {
        int had = stock.path.size;
        stock.path.size = 0;
        return had;
    }

    public int fault() {
        route.read(stock.path, stock.lexicon);
        return route.faultAt;
    }

    public int length() {
        route.read(stock.path, stock.lexicon);
        return route.canBeGone() ? route.count : refuse(NO);
    }

    public int parts(int state, int place) {
        if (!goesPath()) {
            return refuse(NO);
        }
        if (!isState(state) || !isPlace(place)) {
            return refuse(BAD);
        }
        goTo(now, state);
        return now.parts[place];
    }

    public int formOf(int state, int form) {
        if (!goesPath()) {
            return refuse(NO);
        }
        if (!isState(state) || !isIn(form, 0, FORMS - 1)) {
            return refuse(BAD, BAD_FORM);
        }
        goTo(now, state);
        return now.forms[form];
    }

    public int step(int step, int what) {
        if (!goesPath()) {
            return refuse(NO);
        }
        if (!isIn(step, 1, route.count) || !isIn(what, 0, 3)) {
            return refuse(BAD);
        }
        goTo(then, step - 1);
        now.copyFrom(then);
        route.goStep(now, step, stock.lexicon);
        switch (what) {
            case 0: return then.partsBeyond(now);
            case 1: return now.partsBeyond(then);
            case 2: return now.formsBeyond(then);
            default: return then.formsBeyond(now);
        }
    }

    public int unlike(int one, int other) {
        if (!goesPath()) {
            return refuse(NO);
        }
        if (!isState(one) || !isState(other)) {
            return refuse(BAD);
        }
        goTo(now, one);
        goTo(then, other);
        return now.unlikeness(then);
    }

    public int gone(int place, int part) {
        if (!goesPath()) {
            return refuse(NO);
        }
        if (!isPlace(place) || !isIn(part, 0, PARTS - 1)) {
            return refuse(BAD);
        }
        int behindLast = 0;
        now.copyFrom(stock.saying);
        for (int state = 0; state <= route.count; state++) {
            if (state > 0) {
                route.goStep(now, state, stock.lexicon);
            }
            if ((now.parts[place] >> part & 1) != 0) {
                behindLast = state + 1;
            }
        }
        return behindLast > route.count ? NONE : behindLast;
    }

    // ---- what is best

    public int best(int kind, int b, int m, int i) {
        if (!isKind(kind) || !stock.lexicon.hasTongue(b) || !isIn(m, 0, MOST_OVER) || !isIn(i, NONE, m - 1)) {
            return refuse(BAD);
        }
        if (stock.saying.places == 0 || !stock.lexicon.hasWords(b)) {
            return refuse(NO);
        }
        int least = leastUnlike(kind, b, m);
        return i == NONE ? least : rows.first[i];
    }

    public int third(int kind, int b) {
        if (!isKind(kind) || !stock.lexicon.hasTongue(b)) {
            return refuse(BAD);
        }
        if (stock.saying.places == 0 || !stock.lexicon.hasWords(b)) {
            return refuse(NO);
        }
        return leastUnlike(kind, b, 1) < leastUnlike(kind, b, 0) ? 1 : 0;
    }

    public int round(int kind, int a, int t, int what) {
        if (!isKind(kind) || !stock.lexicon.hasTongue(a) || !stock.lexicon.hasTongue(t) || !isIn(what, 0, 1)) {
            return refuse(BAD);
        }
        if (stock.saying.places == 0 || !stock.lexicon.hasWords(a) || !stock.lexicon.hasWords(t)) {
            return refuse(NO);
        }
        now.copyFrom(stock.saying);
        for (int rounds = 1; rounds <= MOST_ROUNDS; rounds++) {
            goRound(now, kind, a, t);
            int earlier = roundLikeNow(kind, a, t, rounds);
            if (earlier != NONE) {
                return what == 0 ? earlier : rounds - earlier;
            }
        }
        // Not reached: a PLACE has 8 WORDS at most to go round on, so a STATE comes again within some twenty rounds.
        return NONE;
    }

    public int common(int kind, int place) {
        if (!isKind(kind) || !isPlace(place)) {
            return refuse(BAD);
        }
        Lexicon lexicon = stock.lexicon;
        int tongue = lexicon.voiceBehind(NONE);
        if (tongue == NONE) {
            return refuse(NO);
        }
        int shared = ALL_PARTS;
        for (; tongue < lexicon.tongues; tongue++) {
            if (lexicon.hasWords(tongue)) {
                State saying = stock.saying;
                shared &= lexicon.parts[lexicon.cheapest(kind, tongue, saying.parts[place], saying.sounds[place])];
            }
        }
        return shared;
    }

    public int bears(int kind, int a, int i) {
        if (!isKind(kind) || !stock.lexicon.hasTongue(a) || i < NONE) {
            return refuse(BAD, BAD_BEARS);
        }
        if (!stock.lexicon.hasWords(a)) {
            return refuse(NO, NO_BEARS);
        }
        int found = 0;
        for (int set = 1; set <= ALL_PARTS; set++) {
            if (stock.lexicon.isBorne(kind, a, set)) {
                if (found == i) {
                    return set;
                }
                found++;
            }
        }
        return i == NONE ? found : NOT_SO_MANY;
    }

    public int middle() {
        int fewest = ALL_PARTS;
        for (int set = 0; set < ALL_PARTS; set++) {
            if (Integer.bitCount(set) < Integer.bitCount(fewest) && stock.lexicon.isToldApartBy(set)) {
                fewest = set;
            }
        }
        return fewest;
    }

    public int end(int place, int parts) {
        if (!isIn(place, 0, PLACES - 1) || !isIn(parts, 0, ALL_PARTS)) {
            return refuse(BAD);
        }
        int was = stock.end.parts[place];
        stock.end.parts[place] = parts;
        return was;
    }

    public int endForm(int form, int value) {
        if (!isIn(form, 0, FORMS - 1) || !isIn(value, NOT_LOOKED_AT, 1)) {
            return refuse(BAD, BAD_FORM);
        }
        int was = stock.end.forms[form];
        stock.end.forms[form] = value;
        return was;
    }

    public int which(int kind, int m, int t) {
        if (!isKind(kind) || !isIn(m, 1, LONGEST_ROW) || t != NONE && !stock.lexicon.hasTongue(t)) {
            return refuse(BAD);
        }
        if (stock.saying.places == 0 || t != NONE && !stock.lexicon.hasWords(t)) {
            return refuse(NO);
        }
        int all = countRowsToEnd(kind, m);
        if (t == NONE) {
            return all;
        }
        if (all == 0) {
            return refuse(NO);
        }
        keepFraction(rowsToEnd[t], all);
        return 1;
    }

    // ---- dictionaries

    public int pair(int tongue, int word, int other, int word2) {
        if (tongue == other || !stock.lexicon.hasWord(tongue, word) || !stock.lexicon.hasWord(other, word2)) {
            return refuse(BAD);
        }
        int from = tongue * WORDS + word;
        int to = other * WORDS + word2;
        if (stock.pairs.has(from, to)) {
            return refuse(BAD);
        }
        if (stock.pairs.size >= PAIRS) {
            return refuse(FULL);
        }
        return stock.pairs.add(from, to);
    }

    public int rings(int what) {
        if (!isIn(what, 0, 1)) {
            return refuse(BAD);
        }
        tally.find(stock.pairs);
        return what == 0 ? tally.all : tally.home;
    }

    public int atFault(int pair) {
        if (!isIn(pair, 0, stock.pairs.size - 1)) {
            return refuse(BAD);
        }
        tally.find(stock.pairs);
        if (tally.with[pair] == 0) {
            return refuse(NO);
        }
        keepFraction(tally.astray[pair], tally.with[pair]);
        return 1;
    }

    public int worst() {
        tally.find(stock.pairs);
        int worst = NONE;
        for (int pair = 0; pair < stock.pairs.size; pair++) {
            if (tally.with[pair] > 0 && (worst == NONE || tally.isWorse(pair, worst))) {
                worst = pair;
            }
        }
        return worst;
    }

    public int sets() {
        tally.find(stock.pairs);
        tally.joinSets(stock.pairs);
        int sets = 0;
        for (int at = 0; at < ALL_WORDS; at++) {
            if (stock.lexicon.isWordAt(at) && tally.sets[at] == at) {
                sets++;
            }
        }
        return sets;
    }

    public int alike(int tongue, int word, int other, int word2) {
        if (!stock.lexicon.hasWord(tongue, word) || !stock.lexicon.hasWord(other, word2)) {
            return refuse(BAD);
        }
        tally.find(stock.pairs);
        tally.joinSets(stock.pairs);
        return tally.sets[tongue * WORDS + word] == tally.sets[other * WORDS + word2] ? 1 : 0;
    }

    // ---- what there is

    public int part(int what) {
        if (!isIn(what, 0, 1)) {
            return refuse(BAD);
        }
        return what == 0 ? above : below;
    }

    public int image(int i) {
        if (!isIn(i, 0, IMAGES - 1)) {
            return refuse(BAD);
        }
        images[i].copyFrom(stock);
        kept[i] = true;
        return 1;
    }

    public int from(int i) {
        if (!isIn(i, 0, IMAGES - 1)) {
            return refuse(BAD);
        }
        if (!kept[i]) {
            return refuse(NO);
        }
        stock.copyFrom(images[i]);
        return 1;
    }

    public int status(int what) {
        if (!isIn(what, 0, refusals.length - 1)) {
            return refuse(BAD, -1);
        }
        return refusals[what];
    }

    public int count(int what) {
        return isIn(what, 0, COUNTS - 1) ? stock.howMany(what) : refuse(BAD);
    }

    public long digest() {
        return mix(mix(stock.mixAll(FIRST_HASH), above), below);
    }

    // ---- what the calls have in common

    private static boolean isIn(int v, int least, int most) {
        return v >= least && v <= most;
    }

    private static boolean isKind(int kind) {
        return isIn(kind, 0, KINDS - 1);
    }

    private boolean isPlace(int place) {
        return isIn(place, 0, stock.saying.places - 1);
    }

    private boolean isState(int state) {
        return isIn(state, 0, route.count);
    }

    private int refuse(int reason) {
        return refuse(reason, reason);
    }

    private int refuse(int reason, int answer) {
        refusals[reason == BAD ? 0 : reason == NO ? 1 : 2]++;
        return answer;
    }

    private static long mix(long h, long v) {
        return 31 * h + v;
    }

    private static long mixRow(long h, int[] row, int size) {
        long mixed = h;
        for (int i = 0; i < size && i < row.length; i++) {
            mixed = mix(mixed, row[i]);
        }
        return mixed;
    }

    private void keepFraction(int share, int whole) {
        int divisor = greatestDivisor(share, whole);
        if (divisor > 0) {
            above = share / divisor;
            below = whole / divisor;
        }
    }

    private static int greatestDivisor(int one, int other) {
        int greater = one;
        int rest = other;
        for (int i = 0; i < MOST_DIVISIONS && rest != 0; i++) {
            int next = greater % rest;
            greater = rest;
            rest = next;
        }
        return greater;
    }

    private boolean goesPath() {
        route.read(stock.path, stock.lexicon);
        return route.canBeGone() && stock.saying.places > 0;
    }

    private void goTo(State state, int upTo) {
        state.copyFrom(stock.saying);
        for (int step = 1; step <= upTo && step <= STEPS; step++) {
            route.goStep(state, step, stock.lexicon);
        }
    }

    private int leastUnlike(int kind, int b, int m) {
        int least = MOST_UNLIKE;
        boolean there = rows.begin(stock, kind, m);
        for (int i = 0; there && i < MOST_ROWS; i++) {
            now.copyFrom(rows.states[m]);
            stock.lexicon.carry(now, kind, b);
            int unlikeness = now.unlikeness(stock.saying);
            if (unlikeness < least) {
                least = unlikeness;
                rows.keepFirst();
            }
            there = rows.goOn(stock.lexicon);
        }
        return least;
    }

    private int countRowsToEnd(int kind, int m) {
        int all = 0;
        Arrays.fill(rowsToEnd, 0);
        boolean there = rows.begin(stock, kind, m);
        for (int i = 0; there && i < MOST_ROWS; i++) {
            if (stock.end.isReached(rows.states[m])) {
                all++;
                rowsToEnd[rows.row[0]]++;
            }
            there = rows.goOn(stock.lexicon);
        }
        return all;
    }

    private void goRound(State state, int kind, int a, int t) {
        stock.lexicon.carry(state, kind, t);
        stock.lexicon.carry(state, kind, a);
    }

    private int roundLikeNow(int kind, int a, int t, int before) {
        then.copyFrom(stock.saying);
        for (int rounds = 0; rounds < before; rounds++) {
            if (then.isSameAs(now)) {
                return rounds;
            }
            goRound(then, kind, a, t);
        }
        return NONE;
    }

    /** THE SAYING or what a STEP makes of it. */
    private static final class State {
        int places = 0;
        final int[] parts = new int[PLACES];
        final int[] sounds = new int[PLACES];
        final int[] forms = new int[FORMS];

        State() {
            empty();
        }

        void empty() {
            places = 0;
            Arrays.fill(forms, NONE);
        }

        int addPlace(int set) {
            parts[places] = set;
            sounds[places] = NONE;
            places++;
            return places - 1;
        }

        void copyFrom(State that) {
            places = that.places;
            System.arraycopy(that.parts, 0, parts, 0, PLACES);
            System.arraycopy(that.sounds, 0, sounds, 0, PLACES);
            System.arraycopy(that.forms, 0, forms, 0, FORMS);
        }

        int partsBeyond(State that) {
            int beyond = 0;
            for (int place = 0; place < places; place++) {
                beyond += Integer.bitCount(parts[place] & ~that.parts[place]);
            }
            return beyond;
        }

        int formsBeyond(State that) {
            int beyond = 0;
            for (int form = 0; form < FORMS; form++) {
                if (forms[form] != NONE && that.forms[form] == NONE) {
                    beyond++;
                }
            }
            return beyond;
        }

        int unlikeness(State that) {
            int unlike = partsBeyond(that) + that.partsBeyond(this);
            for (int form = 0; form < FORMS; form++) {
                if (forms[form] != that.forms[form]) {
                    unlike++;
                }
            }
            return unlike;
        }

        boolean isSameAs(State that) {
            for (int place = 0; place < places; place++) {
                if (sounds[place] != that.sounds[place]) {
                    return false;
                }
            }
            return places == that.places && unlikeness(that) == 0;
        }
    }

    /** TONGUES, their WORDS (eight slots for each TONGUE), and what a WORD costs. */
    private static final class Lexicon {
        int tongues = 0;
        int lost = 2;
        int added = 1;
        final int[] must = new int[TONGUES];
        final int[] can = new int[TONGUES];
        final int[] leans = new int[TONGUES];
        final int[] words = new int[TONGUES];
        final int[] parts = new int[ALL_WORDS];
        final int[] sounds = new int[ALL_WORDS];
        final int[] usual = new int[ALL_WORDS];

        void copyFrom(Lexicon that) {
            tongues = that.tongues;
            lost = that.lost;
            added = that.added;
            System.arraycopy(that.must, 0, must, 0, TONGUES);
            System.arraycopy(that.can, 0, can, 0, TONGUES);
            System.arraycopy(that.leans, 0, leans, 0, TONGUES);
            System.arraycopy(that.words, 0, words, 0, TONGUES);
            System.arraycopy(that.parts, 0, parts, 0, ALL_WORDS);
            System.arraycopy(that.sounds, 0, sounds, 0, ALL_WORDS);
            System.arraycopy(that.usual, 0, usual, 0, ALL_WORDS);
        }

        boolean hasTongue(int tongue) {
            return isIn(tongue, 0, tongues - 1);
        }

        boolean hasWords(int tongue) {
            return hasTongue(tongue) && words[tongue] > 0;
        }

        boolean hasWord(int tongue, int word) {
            return hasTongue(tongue) && isIn(word, 0, words[tongue] - 1);
        }

        boolean isWordAt(int at) {
            return at >= 0 && hasWord(at / WORDS, at % WORDS);
        }

        int addTongue(int mustSay, int canSay, int leansTo) {
            must[tongues] = mustSay;
            can[tongues] = canSay;
            leans[tongues] = leansTo;
            words[tongues] = 0;
            tongues++;
            return tongues - 1;
        }

        int addWord(int tongue, int set, int sound, int usualness) {
            int word = words[tongue];
            int at = tongue * WORDS + word;
            parts[at] = set;
            sounds[at] = sound;
            usual[at] = usualness;
            words[tongue]++;
            return word;
        }

        /** The first TONGUE with WORDS behind one (NONE: of all), or NONE. */
        int voiceBehind(int tongue) {
            for (int next = tongue + 1; next < tongues; next++) {
                if (hasWords(next)) {
                    return next;
                }
            }
            return NONE;
        }

        int costOf(int kind, int set, int sound, int at) {
            int missing = lost * Integer.bitCount(set & ~parts[at]);
            int extra = added * Integer.bitCount(parts[at] & ~set);
            int loss = missing + extra;
            switch (kind) {
                case NARROWED: return loss + extra;
                case WIDENED: return loss + missing;
                case USUAL: return loss - usual[at];
                case SOUNDED: return loss + extra + (sound == NONE ? 0 : Math.abs(sounds[at] - sound));
                case EXACT: return set == parts[at] ? loss : loss + 5;
                case LOSS:
                default: return loss;
            }
        }

        /** The slot of the WORD that a PLACE gets in a TONGUE with WORDS. */
        int cheapest(int kind, int tongue, int set, int sound) {
            int first = tongue * WORDS;
            int chosen = first;
            int least = costOf(kind, set, sound, first);
            for (int at = first + 1; at < first + words[tongue]; at++) {
                int costs = costOf(kind, set, sound, at);
                if (costs < least || costs == least && usual[at] > usual[chosen]) {
                    chosen = at;
                    least = costs;
                }
            }
            return chosen;
        }

        /** A STEP. */
        void carry(State state, int kind, int tongue) {
            if (!hasWords(tongue)) {
                return;
            }
            for (int place = 0; place < state.places; place++) {
                int at = cheapest(kind, tongue, state.parts[place], state.sounds[place]);
                state.parts[place] = parts[at];
                state.sounds[place] = sounds[at];
            }
            for (int form = 0; form < FORMS; form++) {
                state.forms[form] = formIn(tongue, form, state.forms[form]);
            }
        }

        private int formIn(int tongue, int form, int value) {
            if ((can[tongue] >> form & 1) == 0) {
                return NONE;
            }
            boolean isGuessed = value == NONE && (must[tongue] >> form & 1) != 0;
            return isGuessed ? leans[tongue] >> form & 1 : value;
        }

        boolean isBorne(int kind, int home, int set) {
            for (int tongue = 0; tongue < tongues; tongue++) {
                if (hasWords(tongue)) {
                    int abroad = cheapest(kind, tongue, set, NONE);
                    if (parts[cheapest(kind, home, parts[abroad], sounds[abroad])] != set) {
                        return false;
                    }
                }
            }
            return true;
        }

        boolean isToldApartBy(int set) {
            for (int at = 0; at < ALL_WORDS; at++) {
                if (isWordAt(at) && !isToldFromThoseAhead(at, set)) {
                    return false;
                }
            }
            return true;
        }

        private boolean isToldFromThoseAhead(int at, int set) {
            for (int ahead = 0; ahead < at; ahead++) {
                int difference = parts[at] ^ parts[ahead];
                if (difference != 0 && (difference & set) == 0 && isWordAt(ahead)) {
                    return false;
                }
            }
            return true;
        }

        long mixTongues(long h) {
            long mixed = h;
            for (int tongue = 0; tongue < tongues; tongue++) {
                mixed = mix(mix(mix(mixed, must[tongue]), can[tongue]), leans[tongue]);
                for (int at = tongue * WORDS; at < tongue * WORDS + words[tongue]; at++) {
                    mixed = mix(mix(mix(mixed, parts[at]), sounds[at]), usual[at]);
                }
            }
            return mix(mix(mixed, lost), added);
        }
    }

    /** THE PATH as it was typed. */
    private static final class Path {
        int size = 0;
        final int[] bytes = new int[BYTES];

        void copyFrom(Path that) {
            size = that.size;
            System.arraycopy(that.bytes, 0, bytes, 0, BYTES);
        }

        void add(long v, int n) {
            for (int left = n - 1; left >= 0 && size < BYTES; left--) {
                bytes[size] = (int) (v >>> BITS * left & 255);
                size++;
            }
        }
    }

    /** THE PATH as it is read: its FAULT, and its STEPS with all rounds told out. */
    private static final class Route {
        private static final int STEP_MUST_COME = 0, KIND_MAY_COME = 1, STEP_MAY_COME = 2, ROUNDS_MUST_COME = 3;

        int faultAt = NONE;
        /** More than STEPS of them are not told out, and are STEPS + 1. */
        int count = 0;
        private int awaits = STEP_MUST_COME;
        private int open = 0;
        private final int[] opened = new int[DEEPEST];
        private final int[] tongues = new int[STEPS];
        private final int[] kinds = new int[STEPS];

        void read(Path path, Lexicon lexicon) {
            count = 0;
            open = 0;
            awaits = STEP_MUST_COME;
            faultAt = NONE;
            for (int place = 0; place < path.size; place++) {
                int sign = path.bytes[place];
                if (sign != ' ' && !takes(sign, lexicon)) {
                    faultAt = place;
                    return;
                }
            }
            if (open > 0 || awaits == STEP_MUST_COME || awaits == ROUNDS_MUST_COME) {
                faultAt = path.size;
            }
        }

        boolean canBeGone() {
            return faultAt == NONE && count <= STEPS;
        }

        /** From the STATE behind the STEP before. */
        void goStep(State state, int step, Lexicon lexicon) {
            if (isIn(step, 1, count) && step <= STEPS) {
                lexicon.carry(state, kinds[step - 1], tongues[step - 1]);
            }
        }

        private boolean takes(int sign, Lexicon lexicon) {
            if (awaits == ROUNDS_MUST_COME) {
                return takesRounds(sign);
            }
            if (sign == '(') {
                return takesOpening();
            }
            if (sign == ')') {
                return takesClosing();
            }
            return isIn(sign, '0', '9') ? takesKind(sign - '0') : takesLetter(sign - 'a', lexicon);
        }

        private boolean takesOpening() {
            if (open >= DEEPEST) {
                return false;
            }
            opened[open] = count;
            open++;
            awaits = STEP_MUST_COME;
            return true;
        }

        private boolean takesClosing() {
            if (open == 0 || awaits == STEP_MUST_COME) {
                return false;
            }
            awaits = ROUNDS_MUST_COME;
            return true;
        }

        private boolean takesRounds(int sign) {
            if (open == 0 || !isIn(sign, '1', '9')) {
                return false;
            }
            open--;
            int first = opened[open];
            int more = (count - first) * (sign - '1');
            for (int i = first; i < first + more && count <= STEPS && i < STEPS; i++) {
                addStep(tongues[i], kinds[i]);
            }
            awaits = STEP_MAY_COME;
            return true;
        }

        private boolean takesKind(int kind) {
            if (awaits != KIND_MAY_COME || !isKind(kind)) {
                return false;
            }
            if (isIn(count, 1, STEPS)) {
                kinds[count - 1] = kind;
            }
            awaits = STEP_MAY_COME;
            return true;
        }

        private boolean takesLetter(int tongue, Lexicon lexicon) {
            if (!lexicon.hasWords(tongue)) {
                return false;
            }
            addStep(tongue, LOSS);
            awaits = KIND_MAY_COME;
            return true;
        }

        private void addStep(int tongue, int kind) {
            if (count < STEPS) {
                tongues[count] = tongue;
                kinds[count] = kind;
            }
            count = Math.min(count + 1, STEPS + 1);
        }
    }

    /** Rows of TONGUES with WORDS, one after another, with the STATES that they lead through. */
    private static final class Rows {
        final int[] row = new int[LONGEST_ROW];
        final int[] first = new int[LONGEST_ROW];
        final State[] states = new State[LONGEST_ROW + 1];
        private int size = 0;
        private int kind = LOSS;

        Rows() {
            for (int i = 0; i < states.length; i++) {
                states[i] = new State();
            }
        }

        /** Whether there is a first row. */
        boolean begin(Stock stock, int byKind, int howLong) {
            if (!isIn(howLong, 0, LONGEST_ROW)) {
                return false;
            }
            size = howLong;
            kind = byKind;
            states[0].copyFrom(stock.saying);
            int voice = stock.lexicon.voiceBehind(NONE);
            if (size > 0 && voice == NONE) {
                return false;
            }
            Arrays.fill(row, voice);
            goFrom(0, stock.lexicon);
            return true;
        }

        /** Whether there is a row behind this one. */
        boolean goOn(Lexicon lexicon) {
            for (int i = size - 1; i >= 0; i--) {
                int next = lexicon.voiceBehind(row[i]);
                if (next != NONE) {
                    row[i] = next;
                    Arrays.fill(row, i + 1, size, lexicon.voiceBehind(NONE));
                    goFrom(i, lexicon);
                    return true;
                }
            }
            return false;
        }

        private void goFrom(int place, Lexicon lexicon) {
            for (int i = place; i < size; i++) {
                states[i + 1].copyFrom(states[i]);
                lexicon.carry(states[i + 1], kind, row[i]);
            }
        }

        void keepFirst() {
            System.arraycopy(row, 0, first, 0, LONGEST_ROW);
        }
    }

    /** THE END. */
    private static final class End {
        final int[] parts = new int[PLACES];
        final int[] forms = new int[FORMS];

        End() {
            Arrays.fill(forms, NOT_LOOKED_AT);
        }

        void copyFrom(End that) {
            System.arraycopy(that.parts, 0, parts, 0, PLACES);
            System.arraycopy(that.forms, 0, forms, 0, FORMS);
        }

        boolean isReached(State state) {
            for (int place = 0; place < state.places; place++) {
                if (parts[place] != 0 && parts[place] != state.parts[place]) {
                    return false;
                }
            }
            for (int form = 0; form < FORMS; form++) {
                if (forms[form] != NOT_LOOKED_AT && forms[form] != state.forms[form]) {
                    return false;
                }
            }
            return true;
        }
    }

    /** PAIRS of slots of WORDS. */
    private static final class Pairs {
        int size = 0;
        final int[] from = new int[PAIRS];
        final int[] to = new int[PAIRS];

        void copyFrom(Pairs that) {
            size = that.size;
            System.arraycopy(that.from, 0, from, 0, PAIRS);
            System.arraycopy(that.to, 0, to, 0, PAIRS);
        }

        boolean has(int one, int other) {
            for (int pair = 0; pair < size; pair++) {
                if (behind(pair, one) == other) {
                    return true;
                }
            }
            return false;
        }

        int add(int one, int other) {
            from[size] = one;
            to[size] = other;
            size++;
            return size - 1;
        }

        /** The slot that a PAIR leads to from one, or NONE. */
        int behind(int pair, int at) {
            if (from[pair] == at) {
                return to[pair];
            }
            return to[pair] == at ? from[pair] : NONE;
        }

        long mixPairs(long h) {
            long mixed = h;
            for (int pair = 0; pair < size; pair++) {
                mixed = mix(mix(mixed, from[pair] / WORDS), from[pair] % WORDS);
                mixed = mix(mix(mixed, to[pair] / WORDS), to[pair] % WORDS);
            }
            return mixed;
        }
    }

    /** RINGS: how many there are, how many of them each PAIR is in, and the SETS that follow. */
    private static final class Rings {
        int all = 0;
        int home = 0;
        final int[] with = new int[PAIRS];
        final int[] astray = new int[PAIRS];
        /** Of each slot of a WORD the slot that stands for its SET. */
        final int[] sets = new int[ALL_WORDS];

        void find(Pairs pairs) {
            all = 0;
            home = 0;
            Arrays.fill(with, 0);
            Arrays.fill(astray, 0);
            for (int one = 0; one < pairs.size; one++) {
                // Slots rise with TONGUES: the lesser one is of the TONGUE with the lesser number.
                int start = Math.min(pairs.from[one], pairs.to[one]);
                int second = Math.max(pairs.from[one], pairs.to[one]);
                for (int two = 0; two < pairs.size; two++) {
                    int third = pairs.behind(two, second);
                    if (third != NONE && third / WORDS > start / WORDS) {
                        close(pairs, one, two, third, start);
                    }
                }
            }
        }

        private void close(Pairs pairs, int one, int two, int third, int start) {
            for (int three = 0; three < pairs.size; three++) {
                int last = pairs.behind(three, third);
                if (last != NONE && last / WORDS == start / WORDS) {
                    all++;
                    home += last == start ? 1 : 0;
                    addTo(one, last != start);
                    addTo(two, last != start);
                    addTo(three, last != start);
                }
            }
        }

        private void addTo(int pair, boolean isAstray) {
            with[pair]++;
            astray[pair] += isAstray ? 1 : 0;
        }

        /** Of PAIRS that are in RINGS. */
        boolean isWorse(int pair, int than) {
            return astray[pair] * with[than] > astray[than] * with[pair];
        }

        /** By the RINGS that were found. */
        void joinSets(Pairs pairs) {
            for (int at = 0; at < ALL_WORDS; at++) {
                sets[at] = at;
            }
            for (int pair = 0; pair < pairs.size; pair++) {
                if (astray[pair] * 2 <= with[pair]) {
                    join(sets[pairs.from[pair]], sets[pairs.to[pair]]);
                }
            }
        }

        private void join(int one, int other) {
            for (int at = 0; at < ALL_WORDS; at++) {
                if (sets[at] == other) {
                    sets[at] = one;
                }
            }
        }
    }

    /** All that an IMAGE keeps. */
    private static final class Stock {
        final Lexicon lexicon = new Lexicon();
        final State saying = new State();
        final Path path = new Path();
        final End end = new End();
        final Pairs pairs = new Pairs();

        void copyFrom(Stock that) {
            lexicon.copyFrom(that.lexicon);
            saying.copyFrom(that.saying);
            path.copyFrom(that.path);
            end.copyFrom(that.end);
            pairs.copyFrom(that.pairs);
        }

        int howMany(int what) {
            switch (what) {
                case 0: return lexicon.tongues;
                case 1: return saying.places;
                case 2: return path.size;
                case 3: return pairs.size;
                default: return wordsOf(what - FIRST_WORD_COUNT);
            }
        }

        private int wordsOf(int tongue) {
            return lexicon.hasTongue(tongue) ? lexicon.words[tongue] : 0;
        }

        long mixAll(long h) {
            long mixed = h;
            for (int what = 0; what < COUNTS; what++) {
                mixed = mix(mixed, howMany(what));
            }
            mixed = lexicon.mixTongues(mixed);
            mixed = mixRow(mixed, saying.parts, saying.places);
            mixed = mixRow(mixed, saying.forms, FORMS);
            mixed = mixRow(mixed, path.bytes, path.size);
            mixed = mixRow(mixed, end.parts, PLACES);
            mixed = mixRow(mixed, end.forms, FORMS);
            return pairs.mixPairs(mixed);
        }
    }
}
