import java.util.ArrayList;
import java.util.Arrays;
import java.util.HashMap;
import java.util.List;
import java.util.Map;
import java.util.TreeSet;

/**
 * Long runs of calls, each answer set against that of a model that was written from the document
 * in another way: lists, texts and searches without any thought of cost.
 */
public final class ModelTests {
    private static final int RUNS = 400, CALLS = 512, WRONG_SHOWN = 20;

    /** What a run of calls is made of; always the same numbers. */
    private static final class Dice {
        private long seed;

        Dice(long seed) {
            this.seed = seed * 7919 + 13;
        }

        int below(int bound) {
            seed = seed * 6364136223846793005L + 1442695040888963407L;
            return (int) ((seed >>> 33) % bound);
        }

        /** Mostly from least to most, now and then beside it or far from it. */
        int about(int least, int most) {
            int luck = below(40);
            if (luck == 0) {
                return least - 1;
            }
            if (luck == 1) {
                return most + 1;
            }
            if (luck == 2) {
                return below(2) == 0 ? Integer.MAX_VALUE : Integer.MIN_VALUE;
            }
            return most < least ? least : least + below(most - least + 1);
        }
    }

    private record Word(int parts, int sound, int usual) { }

    private record Tongue(int must, int can, int leans, List<Word> words) { }

    private record Place(int parts, Integer sound) { }

    private record Saying(List<Place> places, List<Integer> forms) { }

    private record Step(int tongue, int kind) { }

    private record Pair(int tongue, int word, int other, int word2) {
        List<Integer> one() {
            return List.of(tongue, word);
        }

        List<Integer> two() {
            return List.of(other, word2);
        }

        /** Where it leads from a WORD, or null. */
        List<Integer> from(List<Integer> word) {
            return word.equals(one()) ? two() : word.equals(two()) ? one() : null;
        }
    }

    private record Ring(int one, int two, int three, boolean home) { }

    private static final class Fault extends RuntimeException {
        private static final long serialVersionUID = 1;
        final int place;

        Fault(int place) {
            this.place = place;
        }
    }

    /** Reads THE PATH by going down into its rounds. */
    private static final class Reader {
        final String text;
        final List<Tongue> tongues;
        int place = 0;

        Reader(String text, List<Tongue> tongues) {
            this.text = text;
            this.tongues = tongues;
        }

        char next() {
            while (place < text.length() && text.charAt(place) == ' ') {
                place++;
            }
            return place < text.length() ? text.charAt(place) : (char) 1000;
        }

        List<Step> steps(int open) {
            List<Step> steps = new ArrayList<>(step(open));
            while (true) {
                char c = next();
                if (c == (char) 1000) {
                    if (open > 0) {
                        throw new Fault(place);
                    }
                    return steps;
                }
                if (c == ')' && open > 0) {
                    return steps;
                }
                List<Step> more = step(open);
                if (steps.size() <= 100000) {
                    steps.addAll(more);
                }
            }
        }

        List<Step> step(int open) {
            char c = next();
            if (c == '(' && open < 4) {
                place++;
                List<Step> inside = steps(open + 1);
                place++;
                char often = next();
                if (often < '1' || often > '9') {
                    throw new Fault(place);
                }
                place++;
                List<Step> all = new ArrayList<>();
                for (char i = '0'; i < often; i++) {
                    all.addAll(inside);
                }
                return all;
            }
            int tongue = c - 'a';
            if (tongue < 0 || tongue >= tongues.size() || tongues.get(tongue).words().isEmpty()) {
                throw new Fault(place);
            }
            place++;
            char kind = next();
            if (kind >= '0' && kind <= '5') {
                place++;
                return List.of(new Step(tongue, kind - '0'));
            }
            return List.of(new Step(tongue, 0));
        }
    }

    private static final class Kept {
        List<Tongue> tongues = new ArrayList<>();
        int lost = 2;
        int added = 1;
        Saying saying = new Saying(new ArrayList<>(), new ArrayList<>(Arrays.asList(-1, -1, -1, -1)));
        String path = "";
        int[] endParts = new int[6];
        int[] endForms = {-2, -2, -2, -2};
        List<Pair> pairs = new ArrayList<>();

        Kept twin() {
            Kept twin = new Kept();
            for (Tongue t : tongues) {
                twin.tongues.add(new Tongue(t.must(), t.can(), t.leans(), new ArrayList<>(t.words())));
            }
            twin.lost = lost;
            twin.added = added;
            twin.saying = new Saying(new ArrayList<>(saying.places()), new ArrayList<>(saying.forms()));
            twin.path = path;
            twin.endParts = endParts.clone();
            twin.endForms = endForms.clone();
            twin.pairs.addAll(pairs);
            return twin;
        }
    }

    private static final class Model {
        Kept k = new Kept();
        final Kept[] images = new Kept[2];
        final int[] status = new int[3];
        int above = 0;
        int below = 1;

        int bad(int answer) {
            status[0]++;
            return answer;
        }

        int no(int answer) {
            status[1]++;
            return answer;
        }

        int full() {
            status[2]++;
            return -4;
        }

        static boolean in(int v, int least, int most) {
            return least <= v && v <= most;
        }

        boolean isTongue(int t) {
            return in(t, 0, k.tongues.size() - 1);
        }

        boolean isWord(int t, int w) {
            return isTongue(t) && in(w, 0, k.tongues.get(t).words().size() - 1);
        }

        boolean speaks(int t) {
            return !k.tongues.get(t).words().isEmpty();
        }

        List<Integer> speaking() {
            List<Integer> all = new ArrayList<>();
            for (int t = 0; t < k.tongues.size(); t++) {
                if (speaks(t)) {
                    all.add(t);
                }
            }
            return all;
        }

        static int bits(int set) {
            int n = 0;
            for (int i = 0; i < 8; i++) {
                n += set / (1 << i) % 2;
            }
            return n;
        }

        int cost(int kind, Place place, Word word) {
            int missing = 0;
            int extra = 0;
            for (int i = 0; i < 8; i++) {
                boolean here = (place.parts() & 1 << i) != 0;
                boolean there = (word.parts() & 1 << i) != 0;
                if (here && !there) {
                    missing++;
                }
                if (there && !here) {
                    extra++;
                }
            }
            if (kind == 1) {
                return cost(0, place, word) + k.added * extra;
            }
            if (kind == 2) {
                return cost(0, place, word) + k.lost * missing;
            }
            if (kind == 3) {
                return cost(0, place, word) - word.usual();
            }
            if (kind == 4) {
                int far = place.sound() == null ? 0 : Math.max(place.sound(), word.sound()) - Math.min(place.sound(), word.sound());
                return cost(1, place, word) + far;
            }
            if (kind == 5) {
                return cost(0, place, word) + (missing + extra > 0 ? 5 : 0);
            }
            return k.lost * missing + k.added * extra;
        }

        Place carry(int kind, Place place, int tongue) {
            List<Word> words = new ArrayList<>(k.tongues.get(tongue).words());
            // A list's sort keeps the order of like ones.
            words.sort((one, two) -> {
                int byCost = Integer.compare(cost(kind, place, one), cost(kind, place, two));
                return byCost != 0 ? byCost : Integer.compare(two.usual(), one.usual());
            });
            return new Place(words.get(0).parts(), words.get(0).sound());
        }

        Saying carry(int kind, Saying saying, int tongue) {
            Tongue t = k.tongues.get(tongue);
            Saying next = new Saying(new ArrayList<>(), new ArrayList<>());
            for (Place place : saying.places()) {
                next.places().add(carry(kind, place, tongue));
            }
            for (int f = 0; f < 4; f++) {
                int bit = 1 << f;
                int v = saying.forms().get(f);
                if ((t.can() & bit) == 0) {
                    v = -1;
                } else if ((t.must() & bit) != 0 && v == -1) {
                    v = (t.leans() & bit) != 0 ? 1 : 0;
                }
                next.forms().add(v);
            }
            return next;
        }

        int unlike(Saying one, Saying two) {
            int n = 0;
            for (int p = 0; p < one.places().size(); p++) {
                n += bits(one.places().get(p).parts() ^ two.places().get(p).parts());
            }
            for (int f = 0; f < 4; f++) {
                n += one.forms().get(f).equals(two.forms().get(f)) ? 0 : 1;
            }
            return n;
        }

        int tongue(int must, int can, int leans) {
            if (!in(must, 0, 15) || !in(can, 0, 15) || !in(leans, 0, 15) || (must | can) != can) {
                return bad(-2);
            }
            if (k.tongues.size() == 6) {
                return full();
            }
            k.tongues.add(new Tongue(must, can, leans, new ArrayList<>()));
            return k.tongues.size() - 1;
        }

        int word(int t, int parts, int sound, int usual) {
            if (!isTongue(t) || !in(parts, 1, 255) || !in(sound, 0, 9) || !in(usual, 0, 9)) {
                return bad(-2);
            }
            List<Word> words = k.tongues.get(t).words();
            if (words.size() == 8) {
                return full();
            }
            words.add(new Word(parts, sound, usual));
            return words.size() - 1;
        }

        int put(int what, int v) {
            if (!in(what, 0, 1) || !in(v, 0, 9)) {
                return bad(-2);
            }
            int was;
            if (what == 0) {
                was = k.lost;
                k.lost = v;
            } else {
                was = k.added;
                k.added = v;
            }
            return was;
        }

        int say(int parts) {
            if (!in(parts, 1, 255)) {
                return bad(-2);
            }
            if (k.saying.places().size() == 6) {
                return full();
            }
            k.saying.places().add(new Place(parts, null));
            return k.saying.places().size() - 1;
        }

        int form(int f, int v) {
            return !in(f, 0, 3) || !in(v, -1, 1) ? bad(-10) : k.saying.forms().set(f, v);
        }

        int hush() {
            int had = k.saying.places().size();
            k.saying = new Saying(new ArrayList<>(), new ArrayList<>(Arrays.asList(-1, -1, -1, -1)));
            return had;
        }

        boolean isPlace(int p) {
            return in(p, 0, k.saying.places().size() - 1);
        }

        int cost(int kind, int p, int t, int w) {
            if (!in(kind, 0, 5) || !isPlace(p) || !isWord(t, w)) {
                return bad(-1000);
            }
            return cost(kind, k.saying.places().get(p), k.tongues.get(t).words().get(w));
        }

        int type(long v, int n) {
            if (!in(n, 1, 8)) {
                return bad(-2);
            }
            if (k.path.length() + n > 60) {
                return full();
            }
            StringBuilder more = new StringBuilder();
            for (int i = 0; i < n; i++) {
                more.insert(0, (char) Math.floorMod(v >> 8 * i, 256L));
            }
            k.path += more;
            return k.path.length();
        }

        int clear() {
            int had = k.path.length();
            k.path = "";
            return had;
        }

        int fault() {
            try {
                new Reader(k.path, k.tongues).steps(0);
                return -1;
            } catch (Fault f) {
                return f.place;
            }
        }

        List<Step> steps() {
            if (fault() != -1) {
                return null;
            }
            List<Step> steps = new Reader(k.path, k.tongues).steps(0);
            return steps.size() > 200 ? null : steps;
        }

        int length() {
            List<Step> steps = steps();
            return steps == null ? no(-3) : steps.size();
        }

        List<Saying> states() {
            List<Step> steps = steps();
            if (steps == null || k.saying.places().isEmpty()) {
                return null;
            }
            List<Saying> states = new ArrayList<>();
            states.add(k.saying);
            for (Step s : steps) {
                states.add(carry(s.kind(), states.get(states.size() - 1), s.tongue()));
            }
            return states;
        }

        int parts(int state, int p) {
            List<Saying> s = states();
            if (s == null) {
                return no(-3);
            }
            return !in(state, 0, s.size() - 1) || !isPlace(p) ? bad(-2) : s.get(state).places().get(p).parts();
        }

        int formOf(int state, int f) {
            List<Saying> s = states();
            if (s == null) {
                return no(-3);
            }
            return !in(state, 0, s.size() - 1) || !in(f, 0, 3) ? bad(-10) : s.get(state).forms().get(f);
        }

        int step(int step, int what) {
            List<Saying> s = states();
            if (s == null) {
                return no(-3);
            }
            if (!in(step, 1, s.size() - 1) || !in(what, 0, 3)) {
                return bad(-2);
            }
            Saying was = s.get(step - 1);
            Saying is = s.get(step);
            int n = 0;
            for (int p = 0; p < was.places().size() && what < 2; p++) {
                int one = was.places().get(p).parts();
                int two = is.places().get(p).parts();
                n += what == 0 ? bits(one) - bits(one & two) : bits(two) - bits(one & two);
            }
            for (int f = 0; f < 4 && what > 1; f++) {
                boolean one = was.forms().get(f) != -1;
                boolean two = is.forms().get(f) != -1;
                n += one != two && two == (what == 2) ? 1 : 0;
            }
            return n;
        }

        int unlike(int one, int two) {
            List<Saying> s = states();
            if (s == null) {
                return no(-3);
            }
            return !in(one, 0, s.size() - 1) || !in(two, 0, s.size() - 1) ? bad(-2) : unlike(s.get(one), s.get(two));
        }

        int gone(int p, int part) {
            List<Saying> s = states();
            if (s == null) {
                return no(-3);
            }
            if (!isPlace(p) || !in(part, 0, 7)) {
                return bad(-2);
            }
            int first = s.size();
            while (first > 0 && (s.get(first - 1).places().get(p).parts() & 1 << part) == 0) {
                first--;
            }
            return first == s.size() ? -1 : first;
        }

        List<List<Integer>> rows(int m) {
            List<List<Integer>> rows = new ArrayList<>();
            rows.add(List.of());
            for (int i = 0; i < m; i++) {
                List<List<Integer>> longer = new ArrayList<>();
                for (List<Integer> row : rows) {
                    for (int t : speaking()) {
                        List<Integer> more = new ArrayList<>(row);
                        more.add(t);
                        longer.add(more);
                    }
                }
                rows = longer;
            }
            return rows;
        }

        Saying last(int kind, List<Integer> row) {
            Saying s = k.saying;
            for (int t : row) {
                s = carry(kind, s, t);
            }
            return s;
        }

        int best(int kind, int b, int m, int i) {
            if (!in(kind, 0, 5) || !isTongue(b) || !in(m, 0, 3) || i != -1 && !in(i, 0, m - 1)) {
                return bad(-2);
            }
            if (k.saying.places().isEmpty() || !speaks(b)) {
                return no(-3);
            }
            int least = 1000;
            List<Integer> first = null;
            for (List<Integer> row : rows(m)) {
                int u = unlike(k.saying, carry(kind, last(kind, row), b));
                if (u < least) {
                    least = u;
                    first = row;
                }
            }
            return i == -1 ? least : first.get(i);
        }

        int third(int kind, int b) {
            if (!in(kind, 0, 5) || !isTongue(b)) {
                return bad(-2);
            }
            if (k.saying.places().isEmpty() || !speaks(b)) {
                return no(-3);
            }
            return best(kind, b, 1, -1) < best(kind, b, 0, -1) ? 1 : 0;
        }

        int round(int kind, int a, int t, int what) {
            if (!in(kind, 0, 5) || !isTongue(a) || !isTongue(t) || !in(what, 0, 1)) {
                return bad(-2);
            }
            if (k.saying.places().isEmpty() || !speaks(a) || !speaks(t)) {
                return no(-3);
            }
            Map<Saying, Integer> seen = new HashMap<>();
            Saying s = k.saying;
            int round = 0;
            while (!seen.containsKey(s)) {
                seen.put(s, round);
                s = carry(kind, carry(kind, s, t), a);
                round++;
            }
            return what == 0 ? seen.get(s) : round - seen.get(s);
        }

        int common(int kind, int p) {
            if (!in(kind, 0, 5) || !isPlace(p)) {
                return bad(-2);
            }
            if (speaking().isEmpty()) {
                return no(-3);
            }
            int shared = 255;
            for (int t : speaking()) {
                shared &= carry(kind, k.saying.places().get(p), t).parts();
            }
            return shared;
        }

        int bears(int kind, int a, int i) {
            if (!in(kind, 0, 5) || !isTongue(a) || i < -1) {
                return bad(-10);
            }
            if (!speaks(a)) {
                return no(-20);
            }
            List<Integer> borne = new ArrayList<>();
            for (int set = 1; set < 256; set++) {
                boolean same = true;
                for (int t : speaking()) {
                    same = same && carry(kind, carry(kind, new Place(set, null), t), a).parts() == set;
                }
                if (same) {
                    borne.add(set);
                }
            }
            return i == -1 ? borne.size() : i < borne.size() ? borne.get(i) : -5;
        }

        int middle() {
            TreeSet<Integer> unlike = new TreeSet<>();
            for (Tongue t : k.tongues) {
                for (Word w : t.words()) {
                    unlike.add(w.parts());
                }
            }
            for (int n = 0; n < 8; n++) {
                for (int set = 0; set < 256; set++) {
                    TreeSet<Integer> left = new TreeSet<>();
                    for (int parts : unlike) {
                        left.add(parts & set);
                    }
                    if (bits(set) == n && left.size() == unlike.size()) {
                        return set;
                    }
                }
            }
            return 255;
        }

        int end(int p, int parts) {
            if (!in(p, 0, 5) || !in(parts, 0, 255)) {
                return bad(-2);
            }
            int was = k.endParts[p];
            k.endParts[p] = parts;
            return was;
        }

        int endForm(int f, int v) {
            if (!in(f, 0, 3) || !in(v, -2, 1)) {
                return bad(-10);
            }
            int was = k.endForms[f];
            k.endForms[f] = v;
            return was;
        }

        boolean isEnd(Saying s) {
            boolean is = true;
            for (int p = 0; p < s.places().size(); p++) {
                is = is && (k.endParts[p] == 0 || k.endParts[p] == s.places().get(p).parts());
            }
            for (int f = 0; f < 4; f++) {
                is = is && (k.endForms[f] == -2 || k.endForms[f] == s.forms().get(f));
            }
            return is;
        }

        void fraction(int one, int two) {
            int d = two;
            while (one % d != 0 || two % d != 0) {
                d--;
            }
            above = one / d;
            below = two / d;
        }

        int which(int kind, int m, int t) {
            if (!in(kind, 0, 5) || !in(m, 1, 4) || t != -1 && !isTongue(t)) {
                return bad(-2);
            }
            if (k.saying.places().isEmpty() || t != -1 && !speaks(t)) {
                return no(-3);
            }
            int all = 0;
            int share = 0;
            for (List<Integer> row : rows(m)) {
                if (isEnd(last(kind, row))) {
                    all++;
                    share += row.get(0) == t ? 1 : 0;
                }
            }
            if (t == -1) {
                return all;
            }
            if (all == 0) {
                return no(-3);
            }
            fraction(share, all);
            return 1;
        }

        int pair(int t, int w, int o, int w2) {
            if (!isWord(t, w) || !isWord(o, w2) || t == o) {
                return bad(-2);
            }
            if (k.pairs.contains(new Pair(t, w, o, w2)) || k.pairs.contains(new Pair(o, w2, t, w))) {
                return bad(-2);
            }
            if (k.pairs.size() == 24) {
                return full();
            }
            k.pairs.add(new Pair(t, w, o, w2));
            return k.pairs.size() - 1;
        }

        /** As the document goes: three TONGUES, both ways round, from each WORD. */
        List<Ring> allRings() {
            List<Ring> rings = new ArrayList<>();
            int n = k.tongues.size();
            for (int a = 0; a < n; a++) {
                for (int b = a + 1; b < n; b++) {
                    for (int c = a + 1; c < n; c++) {
                        for (int w = 0; b != c && w < k.tongues.get(a).words().size(); w++) {
                            ringsFrom(List.of(a, w), b, c, rings);
                        }
                    }
                }
            }
            return rings;
        }

        void ringsFrom(List<Integer> start, int b, int c, List<Ring> rings) {
            for (int one = 0; one < k.pairs.size(); one++) {
                List<Integer> second = k.pairs.get(one).from(start);
                for (int two = 0; second != null && second.get(0) == b && two < k.pairs.size(); two++) {
                    List<Integer> third = k.pairs.get(two).from(second);
                    for (int three = 0; third != null && third.get(0) == c && three < k.pairs.size(); three++) {
                        List<Integer> back = k.pairs.get(three).from(third);
                        if (back != null && back.get(0).equals(start.get(0))) {
                            rings.add(new Ring(one, two, three, back.equals(start)));
                        }
                    }
                }
            }
        }

        int rings(int what) {
            if (!in(what, 0, 1)) {
                return bad(-2);
            }
            int n = 0;
            for (Ring r : allRings()) {
                n += what == 0 || r.home() ? 1 : 0;
            }
            return n;
        }

        /** In how many RINGS a PAIR is, in how many of them that do not come home. */
        int[] share(int pair) {
            int[] share = new int[2];
            for (Ring r : allRings()) {
                if (r.one() == pair || r.two() == pair || r.three() == pair) {
                    share[0]++;
                    share[1] += r.home() ? 0 : 1;
                }
            }
            return share;
        }

        int atFault(int pair) {
            if (!in(pair, 0, k.pairs.size() - 1)) {
                return bad(-2);
            }
            int[] share = share(pair);
            if (share[0] == 0) {
                return no(-3);
            }
            fraction(share[1], share[0]);
            return 1;
        }

        int worst() {
            int worst = -1;
            double greatest = -1;
            for (int pair = 0; pair < k.pairs.size(); pair++) {
                int[] share = share(pair);
                if (share[0] > 0 && share[1] / (double) share[0] > greatest) {
                    worst = pair;
                    greatest = share[1] / (double) share[0];
                }
            }
            return worst;
        }

        /** All WORDS that PAIRS lead to from one. */
        TreeSet<Integer> setOf(int t, int w) {
            List<Pair> good = new ArrayList<>();
            for (int pair = 0; pair < k.pairs.size(); pair++) {
                int[] share = share(pair);
                if (share[0] == 0 || share[1] * 2 <= share[0]) {
                    good.add(k.pairs.get(pair));
                }
            }
            TreeSet<Integer> set = new TreeSet<>();
            List<List<Integer>> open = new ArrayList<>();
            open.add(List.of(t, w));
            while (!open.isEmpty()) {
                List<Integer> word = open.remove(open.size() - 1);
                if (set.add(word.get(0) * 8 + word.get(1))) {
                    for (Pair p : good) {
                        if (p.from(word) != null) {
                            open.add(p.from(word));
                        }
                    }
                }
            }
            return set;
        }

        int sets() {
            int n = 0;
            for (int t = 0; t < k.tongues.size(); t++) {
                for (int w = 0; w < k.tongues.get(t).words().size(); w++) {
                    n += setOf(t, w).first() == t * 8 + w ? 1 : 0;
                }
            }
            return n;
        }

        int alike(int t, int w, int o, int w2) {
            if (!isWord(t, w) || !isWord(o, w2)) {
                return bad(-2);
            }
            return setOf(t, w).contains(o * 8 + w2) ? 1 : 0;
        }

        int part(int what) {
            return what == 0 ? above : what == 1 ? below : bad(-2);
        }

        int image(int i) {
            if (!in(i, 0, 1)) {
                return bad(-2);
            }
            images[i] = k.twin();
            return 1;
        }

        int from(int i) {
            if (!in(i, 0, 1)) {
                return bad(-2);
            }
            if (images[i] == null) {
                return no(-3);
            }
            k = images[i].twin();
            return 1;
        }

        int status(int what) {
            return in(what, 0, 2) ? status[what] : bad(-1);
        }

        int count(int what) {
            if (!in(what, 0, 9)) {
                return bad(-2);
            }
            int[] all = {k.tongues.size(), k.saying.places().size(), k.path.length(), k.pairs.size(), 0, 0, 0, 0, 0, 0};
            for (int t = 0; t < k.tongues.size(); t++) {
                all[4 + t] = k.tongues.get(t).words().size();
            }
            return all[what];
        }

        long digest() {
            List<Integer> all = new ArrayList<>();
            for (int what = 0; what < 10; what++) {
                all.add(count(what));
            }
            for (Tongue t : k.tongues) {
                all.addAll(List.of(t.must(), t.can(), t.leans()));
                for (Word w : t.words()) {
                    all.addAll(List.of(w.parts(), w.sound(), w.usual()));
                }
            }
            all.addAll(List.of(k.lost, k.added));
            for (Place p : k.saying.places()) {
                all.add(p.parts());
            }
            all.addAll(k.saying.forms());
            for (char c : k.path.toCharArray()) {
                all.add((int) c);
            }
            for (int parts : k.endParts) {
                all.add(parts);
            }
            for (int v : k.endForms) {
                all.add(v);
            }
            for (Pair p : k.pairs) {
                all.addAll(List.of(p.tongue(), p.word(), p.other(), p.word2()));
            }
            all.addAll(List.of(above, below));
            long h = 599;
            for (int v : all) {
                h = 31 * h + v;
            }
            return h;
        }
    }

    private static int wrong = 0;

    /** A PATH, right more often than not, in as few bytes as there is room for. */
    private static String pathText(Dice dice, int depth, int tongues) {
        StringBuilder text = new StringBuilder();
        int steps = 1 + dice.below(4);
        for (int i = 0; i < steps; i++) {
            int luck = dice.below(60);
            if (luck == 0) {
                text.append((char) dice.below(256));
            } else if (luck < 4) {
                text.append(' ');
            } else if (luck < 20 && depth < 5) {
                text.append('(').append(pathText(dice, depth + 1, tongues)).append(')');
                text.append((char) ('1' + dice.below(dice.below(4) == 0 ? 9 : 3)));
            } else {
                text.append((char) ('a' + dice.below(Math.max(1, tongues))));
                if (luck > 40) {
                    text.append((char) ('0' + dice.below(luck == 59 ? 10 : 6)));
                }
            }
        }
        return text.toString();
    }

    private static void due(int run, int call, String name, long got, long want) {
        if (got != want) {
            wrong++;
            if (wrong <= WRONG_SHOWN) {
                System.out.println("run " + run + ", call " + call + ", " + name + " answered " + got + ", due is " + want);
            }
        }
    }

    private static void typeAll(int run, int call, NineTongues x, Model y, String text) {
        due(run, call, "clear", x.clear(), y.clear());
        for (int i = 0; i < text.length(); i += 8) {
            int n = Math.min(8, text.length() - i);
            long v = -1;
            for (int j = 0; j < n; j++) {
                v = v << 8 | text.charAt(i + j);
            }
            due(run, call, "type", x.type(v, n), y.type(v, n));
        }
    }

    private static void build(int run, int call, Dice d, NineTongues x, Model y) {
        int can = d.below(16) | d.below(16);
        int must = d.below(8) == 0 ? d.about(0, 15) : can & d.below(16);
        int a = d.about(0, y.k.tongues.size() - 1);
        int b = d.about(0, 15);
        int c = d.about(0, 9);
        switch (d.below(10)) {
            case 0: due(run, call, "tongue", x.tongue(must, can, b), y.tongue(must, can, b)); break;
            case 1: due(run, call, "put", x.put(1, c), y.put(1, c)); break;
            default:
                int parts = d.below(3) == 0 ? d.about(1, 255) : 1 + d.below(15);
                int e = d.about(0, 9);
                due(run, call, "word", x.word(a, parts, c, e), y.word(a, parts, c, e));
        }
    }

    private static void tell(int run, int call, Dice d, NineTongues x, Model y) {
        int form = d.about(0, 3);
        int value = d.about(-1, 1);
        int place = d.about(0, 5);
        int parts = d.below(3) == 0 ? d.about(0, 255) : d.below(16);
        switch (d.below(12)) {
            case 0: due(run, call, "hush", x.hush(), y.hush()); break;
            case 1: case 2: due(run, call, "form", x.form(form, value), y.form(form, value)); break;
            case 3: due(run, call, "end", x.end(place, parts), y.end(place, parts)); break;
            case 4: due(run, call, "endForm", x.endForm(form, value), y.endForm(form, value)); break;
            case 5: due(run, call, "end", x.end(place, 0), y.end(place, 0)); break;
            case 6: due(run, call, "endForm", x.endForm(form, -2), y.endForm(form, -2)); break;
            case 7: case 8: typeAll(run, call, x, y, pathText(d, 0, y.k.tongues.size())); break;
            case 9:
                int what = d.about(0, 1);
                int v = d.about(0, 9);
                due(run, call, "put", x.put(what, v), y.put(what, v));
                break;
            case 10:
                int n = d.about(1, 8);
                long bytes = (long) d.below(Integer.MAX_VALUE) << 32 | 0x28616229L;
                due(run, call, "type", x.type(bytes, n), y.type(bytes, n));
                break;
            default: due(run, call, "say", x.say(parts), y.say(parts));
        }
    }

    private static void askPath(int run, int call, Dice d, NineTongues x, Model y) {
        List<Step> steps = y.steps();
        int last = steps == null ? 3 : steps.size();
        int s = d.about(0, last);
        int t = d.about(0, last);
        int p = d.about(0, y.k.saying.places().size() - 1);
        int f = d.about(0, 3);
        switch (d.below(8)) {
            case 0: due(run, call, "fault", x.fault(), y.fault()); break;
            case 1: due(run, call, "length", x.length(), y.length()); break;
            case 2: due(run, call, "parts", x.parts(s, p), y.parts(s, p)); break;
            case 3: due(run, call, "formOf", x.formOf(s, f), y.formOf(s, f)); break;
            case 4: case 5: due(run, call, "step", x.step(s, f), y.step(s, f)); break;
            case 6: due(run, call, "unlike", x.unlike(s, t), y.unlike(s, t)); break;
            default:
                int part = d.about(0, 7);
                due(run, call, "gone", x.gone(p, part), y.gone(p, part));
        }
    }

    private static void askBest(int run, int call, Dice d, NineTongues x, Model y) {
        int kind = d.about(0, 5);
        int a = d.about(0, y.k.tongues.size() - 1);
        int t = d.about(0, y.k.tongues.size() - 1);
        int p = d.about(0, y.k.saying.places().size() - 1);
        int what = d.about(0, 1);
        switch (d.below(8)) {
            case 0:
                int m = d.about(0, d.below(3) == 0 ? 3 : 2);
                int i = d.about(-1, m - 1);
                due(run, call, "best", x.best(kind, a, m, i), y.best(kind, a, m, i));
                break;
            case 1: due(run, call, "third", x.third(kind, a), y.third(kind, a)); break;
            case 2: due(run, call, "round", x.round(kind, a, t, what), y.round(kind, a, t, what)); break;
            case 3: due(run, call, "common", x.common(kind, p), y.common(kind, p)); break;
            case 4:
                int j = d.about(-1, 6);
                due(run, call, "bears", x.bears(kind, a, j), y.bears(kind, a, j));
                break;
            case 5: due(run, call, "middle", x.middle(), y.middle()); break;
            case 6:
                int one = d.about(0, y.k.tongues.size() - 1);
                int w = d.about(0, 3);
                due(run, call, "cost", x.cost(kind, p, one, w), y.cost(kind, p, one, w));
                break;
            default:
                int size = d.about(1, d.below(5) == 0 ? 4 : 2);
                int first = d.about(-1, y.k.tongues.size() - 1);
                due(run, call, "which", x.which(kind, size, first), y.which(kind, size, first));
        }
    }

    private static void askPairs(int run, int call, Dice d, NineTongues x, Model y) {
        int a = d.about(0, y.k.tongues.size() - 1);
        int b = d.about(0, y.k.tongues.size() - 1);
        int v = d.about(0, d.below(4) == 0 ? 7 : 1);
        int w = d.about(0, d.below(4) == 0 ? 7 : 1);
        int pair = d.about(0, y.k.pairs.size() - 1);
        int what = d.about(0, 1);
        switch (d.below(12)) {
            case 0: due(run, call, "rings", x.rings(what), y.rings(what)); break;
            case 1: due(run, call, "atFault", x.atFault(pair), y.atFault(pair)); break;
            case 2: due(run, call, "worst", x.worst(), y.worst()); break;
            case 3: due(run, call, "sets", x.sets(), y.sets()); break;
            case 4: due(run, call, "alike", x.alike(a, v, b, w), y.alike(a, v, b, w)); break;
            default: due(run, call, "pair", x.pair(a, v, b, w), y.pair(a, v, b, w));
        }
    }

    private static void askAll(int run, int call, Dice d, NineTongues x, Model y) {
        int i = d.about(0, 1);
        int what = d.about(0, 9);
        switch (d.below(8)) {
            case 0: due(run, call, "part", x.part(i), y.part(i)); break;
            case 1: due(run, call, "image", x.image(i), y.image(i)); break;
            case 2: due(run, call, "from", x.from(i), y.from(i)); break;
            case 3: due(run, call, "count", x.count(what), y.count(what)); break;
            case 4:
                int of = d.about(0, 2);
                due(run, call, "status", x.status(of), y.status(of));
                break;
            default: due(run, call, "digest", x.digest(), y.digest());
        }
    }

    private static void run(int run) {
        Dice d = new Dice(run);
        NineTongues x = new NineTongues();
        Model y = new Model();
        int tongues = 1 + d.below(6);
        for (int i = 0; i < tongues; i++) {
            int can = d.below(16) | d.below(16);
            int must = can & d.below(16);
            int leans = d.below(16);
            due(run, -1, "tongue", x.tongue(must, can, leans), y.tongue(must, can, leans));
        }
        for (int call = 0; call < CALLS / 2; call++) {
            int luck = d.below(100);
            if (luck < 5 || luck < 70 && call < 24) {
                build(run, call, d, x, y);
            } else if (luck < 22) {
                tell(run, call, d, x, y);
            } else if (luck < 45) {
                askPath(run, call, d, x, y);
            } else if (luck < 65) {
                askBest(run, call, d, x, y);
            } else if (luck < 90) {
                askPairs(run, call, d, x, y);
            } else {
                askAll(run, call, d, x, y);
            }
        }
        due(run, CALLS, "digest", x.digest(), y.digest());
    }

    public static void main(String[] args) {
        for (int run = 0; run < RUNS; run++) {
            run(run);
        }
        System.out.println(wrong == 0 ? "all answers are the model's" : wrong + " answers are not the model's");
        if (wrong != 0) {
            System.exit(1);
        }
    }
}
