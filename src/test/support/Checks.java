import java.util.function.IntToLongFunction;

/** What the tests share: the answers' names, answers that are due, texts and verses in few calls. */
class Checks {
    static final int BAD = -1, NO = -2, FULL = -3, NONE = -4;
    static final int LOW = Integer.MIN_VALUE, HIGH = Integer.MAX_VALUE;

    /** Three words; 0 and 2 are alike but for their last edges. */
    static final String THREE = "w0,1,2;w3,4,5;w0,1,3;";
    /** Joined to word 1, words 0 and 2 sound alike. */
    static final String HIDING = THREE + "j2,3,7,6;j3,3,7,6;";
    /** Four words, no joinings, so that every token is the plain word: 0, 137, 274, 411. */
    static final String FOUR = "w0,0,0;w1,1,1;w2,2,2;w3,3,3;";

    private static final int MOST_TOLD = 100;

    static int promise = 0;
    private static int wrong = 0;

    static void due(String call, long got, long want) {
        if (got != want) {
            wrong++;
        }
        if (got != want && wrong <= MOST_TOLD) {
            System.out.println("promise " + promise + ": " + call + " answered " + got + ", due is " + want);
        }
    }

    /** A number is told from low to high: the answers at both ends; beside them it is BAD. */
    static void range(String call, int low, long atLow, int high, long atHigh, IntToLongFunction answer) {
        due(call + " with " + low, answer.applyAsLong(low), atLow);
        due(call + " with " + high, answer.applyAsLong(high), atHigh);
        for (int beside : new int[] {LOW, low - 1, high + 1, HIGH}) {
            due(call + " with " + beside, answer.applyAsLong(beside), BAD);
        }
    }

    static void end(String praise) {
        System.out.println(wrong == 0 ? praise : wrong + " answers are not as due");
        if (wrong != 0) {
            System.exit(1);
        }
    }

    /** Eight bytes a call, so that an object's 512 calls are enough. */
    static void append(SaidWoven x, String text) {
        for (int at = 0; at < text.length(); at += 8) {
            int n = Math.min(8, text.length() - at);
            x.write(n, bytes(text.substring(at, at + n)));
        }
    }

    static long bytes(String text) {
        long v = 0;
        for (int i = 0; i < text.length(); i++) {
            v = v << 8 | text.charAt(i);
        }
        return v;
    }

    static void text(SaidWoven x, String text) {
        x.wipe();
        append(x, text);
    }

    static SaidWoven laid(String text) {
        SaidWoven x = new SaidWoven();
        text(x, text);
        due("laying " + text, Math.min(x.lay(), 0), 0);
        return x;
    }

    /** So many words of all there are, 16 at most, no joinings: 0,0,0; 0,0,1; .. 1,0,7. */
    static String words(int many) {
        StringBuilder all = new StringBuilder();
        for (int i = 0; i < many; i++) {
            all.append("w").append(i / 8).append(",0,").append(i % 8).append(";");
        }
        return all.toString();
    }

    static void verse(SaidWoven x, int verse, int... words) {
        x.clear(verse);
        for (int word : words) {
            x.add(verse, word);
        }
    }

    static void verseIs(String when, SaidWoven x, int verse, int... words) {
        for (int p = 0; p < 8; p++) {
            due(when + ", word(" + verse + ", " + p + ")", x.word(verse, p), p < words.length ? words[p] : NONE);
        }
    }

    static void faultIs(String text, int want) {
        SaidWoven x = new SaidWoven();
        text(x, text);
        due("fault of " + text, x.fault(), want);
        due("lay of " + text, x.lay() == NO ? 1 : 0, want == NONE ? 0 : 1);
    }

    static void saidIs(SaidWoven x, int verse, int way, int... tokens) {
        due("said(" + verse + ", " + way + ", -1)", x.said(verse, way, -1), tokens.length);
        for (int i = 0; i < tokens.length; i++) {
            due("said(" + verse + ", " + way + ", " + i + ")", x.said(verse, way, i), tokens[i]);
        }
        due("said(" + verse + ", " + way + ", " + tokens.length + ")", x.said(verse, way, tokens.length), NONE);
    }
}
