import java.math.BigInteger;
import java.util.ArrayList;
import java.util.Arrays;
import java.util.HashMap;
import java.util.HashSet;
import java.util.List;
import java.util.Map;
import java.util.regex.Matcher;
import java.util.regex.Pattern;

/**
 * Long runs of calls, told by a fixed sequence of numbers, on SaidWoven and on a slow model of
 * the document side by side; every answer must be the same. The model tries all rows one by one
 * where there are few; where there are many it goes by prefixes, a way that is first tried
 * against all rows.
 */
public final class ModelTests {
    private static final int MOST_CALLS = 512, DEAREST_STEP = 50;
    private static int wrong = 0;
    private static long seed = 1;
    /** Of the object at hand: beyond 512 its answers are free. */
    private static int calls = 0;

    public static void main(String[] args) {
        for (int run = 0; run < 2000; run++) {
            seed = 7919L * run + 17;
            oneRun(run, smallText(), 5, false);
        }
        for (int run = 2000; run < 2200; run++) {
            seed = 7919L * run + 17;
            oneRun(run, largeText(), 8, true);
        }
        for (int run = 2200; run < 4200; run++) {
            seed = 7919L * run + 17;
            textRun(run);
        }
        System.out.println(wrong == 0 ? "the model and the class agree" : wrong + " answers differ");
        if (wrong != 0) {
            System.exit(1);
        }
    }

    // ---- numbers

    private static int below(int bound) {
        seed = seed * 6364136223846793005L + 1442695040888963407L;
        return (int) ((seed >>> 33) % bound);
    }

    /** Mostly from low to high, now and then beside it. */
    private static int about(int low, int high) {
        switch (below(40)) {
            case 0: return low - 1;
            case 1: return high + 1;
            case 2: return below(3) == 0 ? Integer.MIN_VALUE : Integer.MAX_VALUE;
            default: return low + below(Math.max(1, high - low + 1));
        }
    }

    // ---- texts

    private static String smallText() {
        return text(1 + below(4), 2 + below(3), 1 + below(3), below(12));
    }

    private static String largeText() {
        return text(8 + below(9), 3 + below(6), 1 + below(16), below(16));
    }

    private static String text(int words, int edges, int bodies, int joinings) {
        List<String> items = new ArrayList<>();
        HashSet<String> used = new HashSet<>();
        for (int i = 0; i < words; i++) {
            String item = "w" + below(edges) + "," + below(bodies) + "," + below(edges) + ";";
            if (used.add(item)) {
                items.add(item);
            }
        }
        for (int i = 0; i < joinings; i++) {
            items.add("j" + below(edges) + "," + below(edges) + "," + below(edges) + "," + below(edges) + ";");
        }
        for (int i = below(6); i > 0; i--) {
            items.add("h" + below(5) + "," + below(below(2) == 0 ? 4 : 100) + ";");
        }
        StringBuilder all = new StringBuilder();
        while (!items.isEmpty()) {
            String item = items.remove(below(items.size()));
            if (all.length() + item.length() <= 300) {
                all.append(item);
            }
        }
        return all.toString();
    }

    // ---- runs

    private static void oneRun(int run, String text, int places, boolean isLarge) {
        SaidWoven x = new SaidWoven();
        Model m = new Model();
        calls = 0;
        for (int at = 0; at < text.length(); at += 8) {
            String part = text.substring(at, Math.min(text.length(), at + 8));
            long v = 0;
            for (int i = 0; i < part.length(); i++) {
                v = v << 8 | part.charAt(i);
            }
            same(run, "write", x.write(part.length(), v), m.write(part.length(), v));
        }
        same(run, "fault", x.fault(), m.fault());
        same(run, "lay", x.lay(), m.lay());
        int most = isLarge ? 250 : 450;
        for (int step = 0; step < most && calls <= MOST_CALLS - DEAREST_STEP; step++) {
            call(run, x, m, places);
        }
    }

    private static void call(int run, SaidWoven x, Model m, int places) {
        int words = Math.max(1, m.words.size());
        int verse = about(0, 5);
        int word = about(0, words - 1);
        int way = about(0, 4);
        int place = about(0, 7);
        switch (below(36)) {
            case 0: case 1: case 2: case 3: case 4: case 5:
                if (verse < 0 || verse > 5 || m.verses.get(verse).size() < places || below(8) == 0 && places == 8) {
                    same(run, "add " + verse + " " + word, x.add(verse, word), m.add(verse, word));
                }
                break;
            case 6: same(run, "clear " + verse, x.clear(verse), m.clear(verse)); break;
            case 7: same(run, "word " + verse + " " + place, x.word(verse, place), m.word(verse, place)); break;
            case 8: case 9: {
                int i = about(-1, below(2) == 0 ? 8 : 84);
                same(run, "said " + verse + " " + way + " " + i, x.said(verse, way, i), m.said(verse, way, i));
                break;
            }
            case 10: case 11: same(run, "say " + verse + " " + way, x.say(verse, way), m.say(verse, way)); break;
            case 12: case 13: {
                int i = about(0, m.saying == null ? 3 : m.saying.length - 1);
                int token = m.saying == null || below(2) == 0 ? about(0, 1023) : m.saying[below(m.saying.length)];
                same(run, "alter " + i + " " + token, x.alter(i, token), m.alter(i, token));
                break;
            }
            case 14: same(run, "soundSo", x.soundSo(), m.soundSo()); break;
            case 15: case 16:
                same(run, "nearest " + verse, x.nearest(verse), m.nearest(verse));
                checkVerse(run, x, m, verse);
                break;
            case 17: same(run, "rivals", x.rivals(), m.rivals()); break;
            case 18: case 19: {
                int ways = about(0, 31), what = about(0, 2);
                same(run, "far " + verse + " " + ways + " " + what, x.far(verse, ways, what), m.far(verse, ways, what));
                break;
            }
            case 20: {
                if (places == 8 && below(4) != 0) {
                    break;
                }
                int hours = about(0, below(3) == 0 ? 495 : 6), what = about(0, 1);
                same(run, "best " + verse + " " + hours + " " + what, x.best(verse, hours, what), m.best(verse, hours, what));
                break;
            }
            case 21: same(run, "learnt " + verse + " " + place + " " + word, x.learnt(verse, place, word), m.learnt(verse, place, word)); break;
            case 22: case 23: same(run, "slip " + verse + " " + place + " " + word, x.slip(verse, place, word), m.slip(verse, place, word)); break;
            case 24:
                if (below(6) == 0) {
                    same(run, "noSlips", x.noSlips(), m.noSlips());
                }
                break;
            case 25: case 26: {
                int what = about(0, 3);
                same(run, "slips " + what, x.slips(what), m.slips(what));
                break;
            }
            case 27: {
                int e = about(0, 8);
                same(run, "list " + verse + " " + e, x.list(verse, e), m.list(verse, e));
                break;
            }
            case 28: {
                int year = about(0, 3000), by = about(-1, m.heads.size());
                same(run, "head " + year + " " + by + " " + verse, x.head(year, by, verse), m.head(year, by, verse));
                break;
            }
            case 29: {
                int head = about(0, m.heads.size());
                boolean is = below(3) != 0;
                same(run, "alive " + head + " " + is, x.alive(head, is), m.alive(head, is));
                break;
            }
            case 30: same(run, "same " + place, x.same(place), m.same(place)); break;
            case 31: same(run, "since " + place + " " + word, x.since(place, word), m.since(place, word)); break;
            case 32: {
                int set = about(0, (1 << m.heads.size()) - 1);
                same(run, "lost " + set, x.lost(set), m.lost(set));
                same(run, "from " + set + " " + verse, x.from(set, verse), m.from(set, verse));
                break;
            }
            case 33: {
                int s = about(0, 100), c = about(0, 100), k = about(1, 4), part = about(0, 1);
                same(run, "odds " + s + " " + c + " " + k + " " + part, x.odds(s, c, k, part), m.odds(s, c, k, part));
                break;
            }
            case 34:
                if (below(2) == 0) {
                    same(run, "keep", x.keep(), m.keep());
                } else {
                    same(run, "back", x.back(), m.back());
                    checkVerses(run, x, m);
                }
                break;
            default: {
                int what = about(0, 6);
                same(run, "count " + what, x.count(what), m.count(what));
                if (below(60) == 0) {
                    same(run, "lay again", x.lay(), m.lay());
                }
                int l = about(0, 7), f = about(0, 7);
                same(run, "joined " + l + " " + f, x.joined(l, f), m.joined(l, f));
                break;
            }
        }
    }

    private static void checkVerses(int run, SaidWoven x, Model m) {
        for (int v = 0; v < 6; v++) {
            checkVerse(run, x, m, v);
        }
    }

    private static void checkVerse(int run, SaidWoven x, Model m, int v) {
        for (int p = 0; p < 8; p++) {
            same(run, "word " + v + " " + p, x.word(v, p), m.word(v, p));
        }
    }

    /** Texts with a byte changed, taken out or put in. */
    private static void textRun(int run) {
        SaidWoven x = new SaidWoven();
        Model m = new Model();
        StringBuilder text = new StringBuilder(run % 2 == 0 ? smallText() : largeText());
        String signs = "wjh,;0123456789 W/:\u00e9\u0000";
        for (int i = below(3); i > 0 && text.length() > 0; i--) {
            int at = below(text.length());
            char sign = signs.charAt(below(signs.length()));
            switch (below(4)) {
                case 0: text.setCharAt(at, sign); break;
                case 1: text.insert(at, sign); break;
                case 2: text.deleteCharAt(at); break;
                default: text.setLength(at); break;
            }
        }
        for (int i = 0; i < text.length(); i++) {
            long v = (long) below(1000) << 40 | text.charAt(i);
            same(run, "write", x.write(1, v), m.write(1, v));
        }
        same(run, "fault of " + text, x.fault(), m.fault());
        same(run, "lay " + text, x.lay(), m.lay());
        for (int l = 0; l < 8; l++) {
            for (int f = 0; f < 8; f++) {
                same(run, "joined", x.joined(l, f), m.joined(l, f));
            }
        }
        for (int w = 0; w < 17; w++) {
            same(run, "add", x.add(w % 6, w), m.add(w % 6, w));
            same(run, "said", x.said(w % 6, 1, w / 6), m.said(w % 6, 1, w / 6));
        }
        same(run, "wipe", x.wipe(), m.wipe());
        same(run, "fault", x.fault(), m.fault());
    }

    private static void same(int run, String call, long got, long want) {
        calls++;
        if (got != want) {
            wrong++;
            if (wrong < 50) {
                System.out.println("run " + run + ": " + call + " answered " + got + ", the model says " + want);
            }
        }
    }

    // ---- the model

    private static final int BAD = -1, NO = -2, FULL = -3, NONE = -4;

    private static final class Head {
        int year, by, verse;
        boolean alive = true;
    }

    private static final class Kept {
        List<List<Integer>> verses = new ArrayList<>();
        int[] saying;
        int way, size;
    }

    /** Fewest unlike, how many rows, the lowest of them. */
    private static final class Found {
        int fewest = Integer.MAX_VALUE;
        long rows = 0;
        int[] lowest;

        void take(int unlike, long many, int[] row) {
            if (unlike < fewest) {
                fewest = unlike;
                rows = 0;
                lowest = row;
            }
            if (unlike == fewest) {
                rows += many;
                lowest = Arrays.compare(row, lowest) < 0 ? row : lowest;
            }
        }
    }

    private static final class Model {
        String text = "";
        List<int[]> words = new ArrayList<>();
        Map<Integer, int[]> joinings = new HashMap<>();
        int[] hours = {1, 1, 1, 1, 1};
        List<List<Integer>> verses = new ArrayList<>();
        int[] saying;
        int sayingWay, sayingSize;
        List<int[]> slips = new ArrayList<>();
        List<Head> heads = new ArrayList<>();
        List<Kept> kept = new ArrayList<>();

        Model() {
            emptyVerses();
        }

        void emptyVerses() {
            verses.clear();
            for (int i = 0; i < 6; i++) {
                verses.add(new ArrayList<>());
            }
        }

        static boolean in(int n, int low, int high) {
            return low <= n && n <= high;
        }

        int write(int n, long v) {
            if (!in(n, 1, 8)) return BAD;
            if (text.length() + n > 300) return FULL;
            for (int i = 8 - n; i < 8; i++) {
                text += (char) (v >>> (56 - 8 * i) & 255);
            }
            return text.length();
        }

        int wipe() {
            int was = text.length();
            text = "";
            return was;
        }

        static final Pattern ITEM = Pattern.compile(
            "w0?([0-7]),(0?[0-9]|1[0-5]),0?([0-7]);|j0?([0-7]),0?([0-7]),0?([0-7]),0?([0-7]);|h0?([0-4]),([0-9]{1,2});",
            Pattern.DOTALL);

        int read(List<int[]> ws, Map<Integer, int[]> js, int[] hs) {
            Matcher item = ITEM.matcher(text);
            int at = 0;
            HashSet<String> known = new HashSet<>();
            while (at < text.length()) {
                item.region(at, text.length());
                if (!item.lookingAt()) return at;
                if (item.group(1) != null) {
                    int[] w = {Integer.parseInt(item.group(1)), Integer.parseInt(item.group(2)), Integer.parseInt(item.group(3))};
                    if (ws.size() == 16 || !known.add(Arrays.toString(w))) return at;
                    ws.add(w);
                } else if (item.group(4) != null) {
                    js.put(10 * Integer.parseInt(item.group(4)) + Integer.parseInt(item.group(5)),
                        new int[] {Integer.parseInt(item.group(6)), Integer.parseInt(item.group(7))});
                } else {
                    hs[Integer.parseInt(item.group(8))] = Integer.parseInt(item.group(9));
                }
                at = item.end();
            }
            return NONE;
        }

        int fault() {
            return read(new ArrayList<>(), new HashMap<>(), new int[5]);
        }

        int lay() {
            if (fault() != NONE) return NO;
            words = new ArrayList<>();
            joinings = new HashMap<>();
            hours = new int[] {1, 1, 1, 1, 1};
            read(words, joinings, hours);
            emptyVerses();
            saying = null;
            slips.clear();
            heads.clear();
            kept.clear();
            return words.size();
        }

        int[] join(int last, int first) {
            return joinings.getOrDefault(10 * last + first, new int[] {last, first});
        }

        int joined(int last, int first) {
            if (!in(last, 0, 7) || !in(first, 0, 7)) return BAD;
            return 8 * join(last, first)[0] + join(last, first)[1];
        }

        boolean isWord(int w) {
            return in(w, 0, words.size() - 1);
        }

        int add(int verse, int word) {
            if (!in(verse, 0, 5) || !isWord(word)) return BAD;
            if (verses.get(verse).size() == 8) return FULL;
            verses.get(verse).add(word);
            return verses.get(verse).size();
        }

        int clear(int verse) {
            if (!in(verse, 0, 5)) return BAD;
            int was = verses.get(verse).size();
            verses.get(verse).clear();
            return was;
        }

        int word(int verse, int place) {
            if (!in(verse, 0, 5) || !in(place, 0, 7)) return BAD;
            return place < verses.get(verse).size() ? verses.get(verse).get(place) : NONE;
        }

        static List<int[]> groups(int way, int n) {
            List<int[]> all = new ArrayList<>();
            if (way == 0) {
                int[] g = new int[n];
                for (int i = 0; i < n; i++) g[i] = i;
                all.add(g);
                return all;
            }
            if (n == 1) {
                all.add(new int[] {0});
                return all;
            }
            if (way == 1) {
                for (int i = 0; i < n; i++) all.add(new int[] {i});
            }
            if (way == 2) {
                for (int i = 1; i < n; i++) all.add(new int[] {i - 1, i});
            }
            if (way == 3) {
                for (int i = 1; i < n; i++) all.add(new int[] {i - 1, i, i, i - 1, i - 1, i});
            }
            if (way == 4) {
                for (int i = 0; i + 2 < n; i++) {
                    all.add(new int[] {i, i + 1, i + 1, i, i, i + 1, i + 2, i + 2, i + 1, i, i, i + 1, i + 2});
                }
                all.add(new int[] {n - 2, n - 1, n - 1, n - 2, n - 2, n - 1});
            }
            return all;
        }

        /** One token of a group; words of places behind the row's end are not asked for. */
        int token(int[] row, int[] g, int i) {
            int[] w = words.get(row[g[i]]);
            int first = w[0], last = w[2];
            if (i > 0) first = join(words.get(row[g[i - 1]])[2], w[0])[1];
            if (i + 1 < g.length) last = join(w[2], words.get(row[g[i + 1]])[0])[0];
            return 128 * first + 8 * w[1] + last;
        }

        int[] saidBy(int[] row, int way) {
            List<Integer> out = new ArrayList<>();
            for (int[] g : groups(way, row.length)) {
                for (int i = 0; i < g.length; i++) out.add(token(row, g, i));
            }
            return out.stream().mapToInt(Integer::intValue).toArray();
        }

        int[] row(int verse) {
            return verses.get(verse).stream().mapToInt(Integer::intValue).toArray();
        }

        int said(int verse, int way, int i) {
            if (!in(verse, 0, 5) || !in(way, 0, 4) || i < -1) return BAD;
            if (verses.get(verse).isEmpty()) return NO;
            int[] tokens = saidBy(row(verse), way);
            if (i == -1) return tokens.length;
            return i < tokens.length ? tokens[i] : NONE;
        }

        int say(int verse, int way) {
            if (!in(verse, 0, 5) || !in(way, 0, 4)) return BAD;
            if (verses.get(verse).isEmpty()) return NO;
            saying = saidBy(row(verse), way);
            sayingWay = way;
            sayingSize = verses.get(verse).size();
            return saying.length;
        }

        int alter(int i, int token) {
            if (saying == null || !in(i, 0, saying.length - 1) || !in(token, 0, 1023)) return BAD;
            int was = saying[i];
            saying[i] = token;
            return was;
        }

        static int unlike(int[] a, int[] b) {
            int sum = 0;
            for (int i = 0; i < a.length; i++) sum += a[i] == b[i] ? 0 : 1;
            return sum;
        }

        /** All rows of a size (but one) against what each way should say. */
        Found search(int size, int ways, int[][] due, int[] but) {
            double many = Math.pow(words.size(), size);
            if (many > 20000) return byPrefixes(size, ways, due, but);
            Found found = new Found();
            int[] row = new int[size];
            for (long i = 0; i < Math.round(many); i++) {
                long rest = i;
                for (int p = size - 1; p >= 0; p--) {
                    row[p] = (int) (rest % words.size());
                    rest /= words.size();
                }
                if (but != null && Arrays.equals(but, row)) continue;
                int sum = 0;
                for (int way = 0; way < 5; way++) {
                    if ((ways >> way & 1) == 1) sum += unlike(saidBy(row, way), due[way]);
                }
                found.take(sum, 1, row.clone());
            }
            if (many > 1 && many < 300) {
                Found other = byPrefixes(size, ways, due, but);
                if (other.fewest != found.fewest || other.rows != found.rows || !Arrays.equals(other.lowest, found.lowest)) {
                    wrong++;
                    System.out.println("the model's two searches differ");
                }
            }
            return found;
        }

        /** Prefixes with the same last two words (and alike in being another row) go on alike. */
        Found byPrefixes(int size, int ways, int[][] due, int[] but) {
            Map<Integer, Found> ends = new HashMap<>();
            Found none = new Found();
            none.take(0, 1, new int[0]);
            ends.put(0, none);
            for (int p = 0; p < size; p++) {
                Map<Integer, Found> next = new HashMap<>();
                for (Map.Entry<Integer, Found> end : ends.entrySet()) {
                    for (int w = 0; w < words.size(); w++) {
                        int[] row = Arrays.copyOf(end.getValue().lowest, p + 1);
                        row[p] = w;
                        boolean isOther = end.getKey() % 2 == 1 || but != null && but[p] != w;
                        int key = 2 * (32 * (p > 0 ? row[p - 1] : 0) + w) + (isOther ? 1 : 0);
                        int sum = end.getValue().fewest + newlyUnlike(row, size, ways, due);
                        next.computeIfAbsent(key, k -> new Found()).take(sum, end.getValue().rows, row);
                    }
                }
                ends = next;
            }
            Found all = new Found();
            for (Map.Entry<Integer, Found> end : ends.entrySet()) {
                if (but == null || end.getKey() % 2 == 1) {
                    all.take(end.getValue().fewest, end.getValue().rows, end.getValue().lowest);
                }
            }
            return all;
        }

        int newlyUnlike(int[] row, int size, int ways, int[][] due) {
            int newest = row.length - 1;
            int sum = 0;
            for (int way = 0; way < 5; way++) {
                if ((ways >> way & 1) == 0) continue;
                int t = 0;
                for (int[] g : groups(way, size)) {
                    for (int i = 0; i < g.length; i++, t++) {
                        int latest = g[i];
                        if (i > 0) latest = Math.max(latest, g[i - 1]);
                        if (i + 1 < g.length) latest = Math.max(latest, g[i + 1]);
                        if (latest == newest && token(row, g, i) != due[way][t]) sum++;
                    }
                }
            }
            return sum;
        }

        Found nearestToSaying() {
            int[][] due = new int[5][];
            due[sayingWay] = saying;
            return search(sayingSize, 1 << sayingWay, due, null);
        }

        long soundSo() {
            if (saying == null) return NO;
            Found found = nearestToSaying();
            return found.fewest == 0 ? found.rows : 0;
        }

        int nearest(int verse) {
            if (!in(verse, 0, 5)) return BAD;
            if (saying == null) return NO;
            Found found = nearestToSaying();
            verses.get(verse).clear();
            for (int w : found.lowest) verses.get(verse).add(w);
            return found.fewest;
        }

        long rivals() {
            return saying == null ? NO : nearestToSaying().rows;
        }

        int farBy(int verse, int ways) {
            int[] row = row(verse);
            int[][] due = new int[5][];
            for (int way = 0; way < 5; way++) due[way] = saidBy(row, way);
            return search(row.length, ways, due, row).fewest;
        }

        int far(int verse, int ways, int what) {
            if (!in(verse, 0, 5) || !in(ways, 0, 31) || !in(what, 0, 2)) return BAD;
            if (verses.get(verse).isEmpty()) return NO;
            if (words.size() == 1) return NONE;
            int far = farBy(verse, ways);
            return what == 0 ? far : what == 1 ? Math.max(0, far - 1) : Math.max(0, (far - 1) / 2);
        }

        int best(int verse, int most, int what) {
            if (!in(verse, 0, 5) || !in(most, 0, 495) || !in(what, 0, 1)) return BAD;
            if (verses.get(verse).isEmpty()) return NO;
            if (words.size() == 1) return NONE;
            int bits = 0, farthest = 0;
            for (int set = 1; set < 32; set++) {
                int sum = 0;
                for (int way = 0; way < 5; way++) sum += (set >> way & 1) * hours[way];
                if (sum <= most) {
                    int far = farBy(verse, set);
                    if (far > farthest) {
                        farthest = far;
                        bits = set;
                    }
                }
            }
            return what == 0 ? bits : farthest;
        }

        int shownBy(int verse, int place, int word) {
            int[] other = row(verse);
            other[place] = word;
            int ways = 0;
            for (int way = 0; way < 5; way++) {
                if (!Arrays.equals(saidBy(row(verse), way), saidBy(other, way))) ways += 1 << way;
            }
            return ways;
        }

        boolean isSuch(int verse, int place, int word) {
            return in(place, 0, verses.get(verse).size() - 1) && verses.get(verse).get(place) != word;
        }

        int learnt(int verse, int place, int word) {
            if (!in(verse, 0, 5) || !isWord(word) || !isSuch(verse, place, word)) return BAD;
            return shownBy(verse, place, word);
        }

        int slip(int verse, int place, int word) {
            if (!in(verse, 0, 5) || !in(place, 0, 7) || !isWord(word)) return BAD;
            if (slips.size() == 20) return FULL;
            slips.add(new int[] {verse, place, word});
            return slips.size();
        }

        int noSlips() {
            int was = slips.size();
            slips.clear();
            return was;
        }

        int[] lists(int[] row) {
            int[] nine = new int[9];
            for (int w : row) {
                nine[words.get(w)[0]]++;
                nine[8] = (nine[8] + words.get(w)[1]) % 16;
            }
            return nine;
        }

        int slips(int what) {
            if (!in(what, 0, 3)) return BAD;
            int hidden = 0, listed = 0, such = 0;
            List<Integer> shown = new ArrayList<>();
            for (int[] s : slips) {
                if (!isSuch(s[0], s[1], s[2])) continue;
                such++;
                int ways = shownBy(s[0], s[1], s[2]);
                if ((ways & 1) == 0 && (ways & 2) != 0) hidden++;
                if (ways != 0) shown.add(ways);
                int[] other = row(s[0]);
                other[s[1]] = s[2];
                if (!Arrays.equals(lists(row(s[0])), lists(other))) listed++;
            }
            if (what == 0) return hidden;
            if (what == 2) return listed;
            if (what == 3) return such;
            for (int size = 0; size <= 5; size++) {
                for (int set = 0; set < 32; set++) {
                    int each = set;
                    if (Integer.bitCount(set) == size && shown.stream().allMatch(w -> (w & each) != 0)) return set;
                }
            }
            return 31;
        }

        int list(int verse, int e) {
            if (!in(verse, 0, 5) || !in(e, 0, 8)) return BAD;
            return lists(row(verse))[e];
        }

        int head(int year, int by, int verse) {
            if (!in(year, 0, 3000) || !in(by, -1, heads.size() - 1) || !in(verse, 0, 5)) return BAD;
            if (by >= 0 && heads.get(by).year >= year) return BAD;
            if (heads.size() == 16) return FULL;
            Head h = new Head();
            h.year = year;
            h.by = by;
            h.verse = verse;
            heads.add(h);
            return heads.size() - 1;
        }

        int alive(int head, boolean is) {
            if (!in(head, 0, heads.size() - 1)) return BAD;
            int was = heads.get(head).alive ? 1 : 0;
            heads.get(head).alive = is;
            return was;
        }

        int same(int place) {
            if (!in(place, 0, 7)) return BAD;
            HashSet<Integer> there = new HashSet<>();
            for (Head h : heads) {
                if (h.alive && place < verses.get(h.verse).size()) there.add(verses.get(h.verse).get(place));
            }
            return there.size() < 2 ? 1 : 0;
        }

        boolean isFrom(int head, int teacher) {
            for (int h = head; h >= 0; h = heads.get(h).by) {
                if (h == teacher) return true;
            }
            return false;
        }

        int since(int place, int word) {
            if (!in(place, 0, 7) || !isWord(word)) return BAD;
            List<Integer> living = new ArrayList<>();
            for (int h = 0; h < heads.size(); h++) {
                if (heads.get(h).alive) {
                    living.add(h);
                    if (word(heads.get(h).verse, place) != word) return NONE;
                }
            }
            int year = NONE;
            for (int t = 0; t < heads.size() && !living.isEmpty(); t++) {
                int teacher = t;
                if (living.stream().allMatch(h -> isFrom(h, teacher))) year = Math.max(year, heads.get(t).year);
            }
            return year;
        }

        int lost(int set) {
            if (!in(set, 0, (1 << heads.size()) - 1)) return BAD;
            int bits = 0;
            for (int v = 0; v < 6; v++) {
                boolean had = false, has = false;
                for (int h = 0; h < heads.size(); h++) {
                    boolean is = heads.get(h).alive && heads.get(h).verse == v;
                    had |= is;
                    has |= is && (set >> h & 1) == 0;
                }
                if (had && !has) bits |= 1 << v;
            }
            return bits;
        }

        int from(int set, int verse) {
            if (!in(set, 0, (1 << heads.size()) - 1) || !in(verse, 0, 5)) return BAD;
            for (int h = 0; h < heads.size(); h++) {
                if (heads.get(h).alive && heads.get(h).verse == verse && (set >> h & 1) == 0) return h;
            }
            return NONE;
        }

        long odds(int s, int m, int k, int part) {
            if (!in(s, 0, 100) || !in(m, 0, 100) || !in(k, 1, 4) || !in(part, 0, 1)) return BAD;
            BigInteger above = BigInteger.valueOf(10000 - s * (100 - m)).pow(k);
            BigInteger below = BigInteger.valueOf(10000).pow(k);
            return (part == 0 ? above : below).divide(above.gcd(below)).longValueExact();
        }

        int keep() {
            if (kept.size() == 2) return FULL;
            Kept k = new Kept();
            for (List<Integer> v : verses) k.verses.add(new ArrayList<>(v));
            k.saying = saying == null ? null : saying.clone();
            k.way = sayingWay;
            k.size = sayingSize;
            kept.add(k);
            return kept.size();
        }

        int back() {
            if (kept.isEmpty()) return NO;
            Kept k = kept.remove(kept.size() - 1);
            verses = k.verses;
            saying = k.saying;
            sayingWay = k.way;
            sayingSize = k.size;
            return kept.size();
        }

        int count(int what) {
            switch (what) {
                case 0: return words.size();
                case 1: return text.length();
                case 2: return saying == null ? 0 : saying.length;
                case 3: return slips.size();
                case 4: return heads.size();
                case 5: return kept.size();
                case 6: return verses.stream().mapToInt(List::size).sum();
                default: return BAD;
            }
        }
    }
}
