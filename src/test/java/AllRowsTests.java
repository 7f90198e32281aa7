import java.util.ArrayList;
import java.util.Arrays;
import java.util.LinkedHashSet;
import java.util.List;
import java.util.Set;

/**
 * SOUND SO, NEAREST, rivals and FAR against every row there is, none left out: of 16 words at 5
 * and 6 places, and of fewer words at 8 places. A token hangs on three neighbouring places at
 * most, so what each place adds is worked out once for all words of the last three places.
 */
public final class AllRowsTests extends Checks {
    private static final int THREES = 16 * 16 * 16;

    private static long seed = 1;
    private static int[][] words;
    private static int[][] joinings;
    private static int[] row;
    private static int fewest;
    private static long many;
    private static int[] lowest;

    public static void main(String[] args) {
        for (int run = 0; run < 60; run++) {
            compare(run, 16, 5);
            compare(run, 1 + below(6), 8);
        }
        for (int run = 60; run < 90; run++) {
            compare(run, 16, 6);
            compare(run, 7 + below(2), 8);
        }
        end("every row was tried");
    }

    private static int below(int bound) {
        seed = seed * 6364136223846793005L + 1442695040888963407L;
        return (int) ((seed >>> 33) % bound);
    }

    private static void compare(int run, int many, int places) {
        seed = 104729L * run + 31L * many + places;
        SaidWoven x = laid(newText(many));
        int[] verse = new int[places];
        x.clear(0);
        for (int p = 0; p < places; p++) {
            verse[p] = below(many);
            x.add(0, verse[p]);
        }
        promise = 14;
        compareSaying(x, verse, run % 3 == 0 ? below(5) : 4 - run % 2);
        promise = 16;
        for (int i = 0; i < 2 && many > 1; i++) {
            compareFar(x, verse, 1 + below(31));
        }
    }

    /** Few edges or few bodies, so that many rows sound alike. */
    private static String newText(int many) {
        int edges = 2 + below(7);
        int bodies = edges < 4 ? 16 : 1 + below(3);
        Set<List<Integer>> chosen = new LinkedHashSet<>();
        while (chosen.size() < many) {
            chosen.add(List.of(below(edges), below(bodies), below(edges)));
        }
        StringBuilder text = new StringBuilder();
        words = new int[many][];
        int count = 0;
        for (List<Integer> w : chosen) {
            words[count] = new int[] {w.get(0), w.get(1), w.get(2)};
            count++;
            text.append("w").append(w.get(0)).append(",").append(w.get(1)).append(",").append(w.get(2)).append(";");
        }
        joinings = new int[64][];
        for (int i = 0; i < 64; i++) {
            joinings[i] = new int[] {i / 8, i % 8};
        }
        for (int i = below(30); i > 0 && text.length() + 9 <= 300; i--) {
            int l = below(edges), f = below(edges), a = below(Math.min(3, edges)), b = below(Math.min(3, edges));
            joinings[8 * l + f] = new int[] {a, b};
            text.append("j").append(l).append(",").append(f).append(",").append(a).append(",").append(b).append(";");
        }
        return text.toString();
    }

    private static void compareSaying(SaidWoven x, int[] verse, int way) {
        List<int[]> said = tokens(way, verse.length);
        int[] saying = new int[said.size()];
        due("tokens", x.say(0, way), saying.length);
        for (int t = 0; t < saying.length; t++) {
            saying[t] = token(said.get(t), verse);
            due("said", x.said(0, way, t), saying[t]);
        }
        for (int i = below(3) == 0 ? 0 : below(2 * saying.length); i > 0; i--) {
            int at = below(saying.length);
            int to = below(4) == 0 ? below(1024) : saying[below(saying.length)];
            due("altered", x.alter(at, to), saying[at]);
            saying[at] = to;
        }
        tryAll(said, saying, verse.length, null);
        due("soundSo", x.soundSo(), fewest == 0 ? many : 0);
        due("rivals", x.rivals(), many);
        due("nearest", x.nearest(1), fewest);
        verseIs("the nearest row", x, 1, lowest);
    }

    private static void compareFar(SaidWoven x, int[] verse, int ways) {
        List<int[]> said = new ArrayList<>();
        for (int way = 0; way < 5; way++) {
            if ((ways >> way & 1) == 1) {
                said.addAll(tokens(way, verse.length));
            }
        }
        int[] want = new int[said.size()];
        for (int t = 0; t < want.length; t++) {
            want[t] = token(said.get(t), verse);
        }
        tryAll(said, want, verse.length, verse);
        due("far by " + ways, x.far(0, ways, 0), fewest);
    }

    /** The places of each token: that joined before it, its own, that joined behind it (-1: none). */
    private static List<int[]> tokens(int way, int n) {
        List<int[]> all = new ArrayList<>();
        for (int[] group : groups(way, n)) {
            for (int i = 0; i < group.length; i++) {
                all.add(new int[] {i == 0 ? -1 : group[i - 1] - 1, group[i] - 1, i + 1 == group.length ? -1 : group[i + 1] - 1});
            }
        }
        return all;
    }

    /** As the Terms tell them, places from 1. */
    private static List<int[]> groups(int way, int n) {
        List<int[]> all = new ArrayList<>();
        if (way == 0) {
            int[] whole = new int[n];
            for (int i = 0; i < n; i++) {
                whole[i] = i + 1;
            }
            all.add(whole);
        }
        for (int i = 1; i <= n && way == 1; i++) {
            all.add(new int[] {i});
        }
        for (int i = 1; i < n && (way == 2 || way == 3); i++) {
            all.add(way == 2 ? new int[] {i, i + 1} : new int[] {i, i + 1, i + 1, i, i, i + 1});
        }
        for (int i = 1; i <= n - 2 && way == 4; i++) {
            all.add(new int[] {i, i + 1, i + 1, i, i, i + 1, i + 2, i + 2, i + 1, i, i, i + 1, i + 2});
        }
        if (way == 4) {
            all.add(new int[] {n - 1, n, n, n - 1, n - 1, n});
        }
        return all;
    }

    private static int token(int[] places, int[] row) {
        return token(places[0] < 0 ? -1 : row[places[0]], row[places[1]], places[2] < 0 ? -1 : row[places[2]]);
    }

    private static int token(int before, int word, int behind) {
        int[] w = words[word];
        int first = before < 0 ? w[0] : joinings[8 * words[before][2] + w[0]][1];
        int last = behind < 0 ? w[2] : joinings[8 * w[2] + words[behind][0]][0];
        return 128 * first + 8 * w[1] + last;
    }

    /** What each place adds to the unlike tokens, by the words of it and of the two before it. */
    private static int[][] unlike(List<int[]> said, int[] want, int n) {
        int[][] added = new int[n][THREES];
        for (int t = 0; t < want.length; t++) {
            int[] at = said.get(t);
            int last = Math.max(at[1], Math.max(at[0], at[2]));
            for (int three = 0; three < THREES; three++) {
                int[] w = {three >> 8, three >> 4 & 15, three & 15};
                if (w[0] < words.length && w[1] < words.length && w[2] < words.length) {
                    int before = at[0] < 0 ? -1 : w[2 - last + at[0]];
                    int behind = at[2] < 0 ? -1 : w[2 - last + at[2]];
                    added[last][three] += token(before, w[2 - last + at[1]], behind) == want[t] ? 0 : 1;
                }
            }
        }
        return added;
    }

    private static void tryAll(List<int[]> said, int[] want, int n, int[] leftOut) {
        fewest = Integer.MAX_VALUE;
        many = 0;
        lowest = null;
        row = new int[n];
        go(unlike(said, want, n), 0, 0, 0, leftOut);
    }

    private static void go(int[][] added, int p, int three, int sum, int[] leftOut) {
        for (int w = 0; w < words.length; w++) {
            int now = (three << 4 | w) & THREES - 1;
            row[p] = w;
            if (p + 1 < row.length) {
                go(added, p + 1, now, sum + added[p][now], leftOut);
            } else if (sum + added[p][now] <= fewest && !Arrays.equals(row, leftOut)) {
                take(sum + added[p][now]);
            }
        }
    }

    /** Rows come lowest first, so the first one with so few is the lowest. */
    private static void take(int unlike) {
        if (unlike < fewest) {
            fewest = unlike;
            many = 0;
            lowest = row.clone();
        }
        many++;
    }
}
