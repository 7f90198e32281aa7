/**
 * Each sentence about sayings and ways (promises 11 to 22) that names a boundary case: the last
 * that is allowed and the first beyond it, the empty and the full, the refused.
 */
public final class SayingBoundaryTests extends Checks {
    private static final int[] TOKENS_OF_EIGHT = {8, 8, 14, 42, 84};

    public static void main(String[] args) {
        promise = 11;
        sayRange(); sayOfAnEmptyVerse(); fewestAndMostTokens(); anotherSaying();
        promise = 12;
        alterRange(); alterWithoutASaying(); alterOneAlone();
        promise = 13;
        soundSoWithoutASaying(); soundSoOfNoneOneAndMost();
        promise = 14;
        nearestRange(); nearestWithoutASaying(); nearestWithAllUnlike(); nearestOfOneWord(); ofSeveralTheLowest();
        everyTokenAlone(); threeTokensOfTheMiddleWord(); askedAgain();
        promise = 15;
        rivalsWithoutASaying(); rivalsFromOneToAll();
        promise = 16;
        farRange(); farOfAnEmptyVerse(); farWithNoOtherRow(); farByNoWay(); showsAndMendsAtLeastNought(); farOfEightWords();
        hiddenAtEachPlace();
        promise = 17;
        bestRange(); bestOfAnEmptyVerse(); bestWithNoOtherRow(); noMoreHoursThanTold(); hoursFromNoughtToNinetyNine();
        ofSeveralTheLeastBits(); theLastHoursTold();
        promise = 18;
        learntRange(); learntWhereNoneIs(); learntTheSameWord();
        promise = 19;
        slipRange(); twentySlipsAtMost();
        promise = 20;
        noSlipsOfNoneAndTwenty();
        promise = 21;
        slipsRange(); slipsOfNone(); slipsThatAreSuch(); twentySuchSlips(); hiddenByJoinedAlone(); listedAtTheLeast();
        promise = 22;
        listRange(); listOfAnEmptyVerse(); listOfEight(); sumModuloSixteen();
        end("the boundaries of sayings and ways hold");
    }

    private static SaidWoven sixVerses() {
        SaidWoven x = laid(FOUR);
        for (int v = 0; v < 6; v++) {
            verse(x, v, v % 4, 3);
        }
        return x;
    }

    private static SaidWoven eightWords(String text) {
        SaidWoven x = laid(text);
        verse(x, 0, 0, 1, 2, 3, 0, 1, 2, 3);
        return x;
    }

    // ---- promise 11

    private static void sayRange() {
        SaidWoven x = sixVerses();
        range("say(verse, 1)", 0, 2, 5, 2, v -> x.say(v, 1));
        due("the last that was not BAD", x.alter(0, 0), 137);
        range("say(0, way)", 0, 2, 4, 6, w -> x.say(0, w));
        due("count(2) after BAD", x.count(2), 6);
    }

    private static void sayOfAnEmptyVerse() {
        SaidWoven x = laid(FOUR);
        range("say(verse, 0) of empty verses", 0, NO, 5, NO, v -> x.say(v, 0));
        range("say(0, way) of an empty verse", 0, NO, 4, NO, w -> x.say(0, w));
        due("count(2)", x.count(2), 0);
        x.add(0, 0);
        due("of one word", x.say(0, 0), 1);
        x.clear(0);
        due("of a cleared verse", x.say(0, 0), NO);
        due("the saying stays", x.count(2), 1);
    }

    private static void fewestAndMostTokens() {
        SaidWoven x = eightWords(FOUR);
        verse(x, 1, 2);
        for (int way = 0; way < 5; way++) {
            due("say of one word by " + way, x.say(1, way), 1);
            due("count(2)", x.count(2), 1);
            due("its token", x.alter(0, 274), 274);
            due("no second token", x.alter(1, 0), BAD);
            int last = TOKENS_OF_EIGHT[way] - 1;
            due("say of eight words by " + way, x.say(0, way), last + 1);
            due("count(2)", x.count(2), last + 1);
            due("its last token", x.alter(last, 0), 411);
            due("none behind it", x.alter(last + 1, 0), BAD);
        }
    }

    private static void anotherSaying() {
        SaidWoven x = eightWords(FOUR);
        x.say(0, 4);
        for (int i = 0; i < 84; i++) {
            x.alter(i, 1023);
        }
        verse(x, 1, 3, 2);
        due("a shorter one", x.say(1, 0), 2);
        due("its first token", x.alter(0, 411), 411);
        due("its second token", x.alter(1, 274), 274);
        due("soundSo of two words", x.soundSo(), 1);
        due("say of the longer one again", x.say(0, 4), 84);
        for (int i = 0; i < 84; i++) {
            int token = x.said(0, 4, i);
            due("nothing is left altered at " + i, x.alter(i, token), token);
        }
    }

    // ---- promise 12

    private static void alterRange() {
        SaidWoven x = eightWords(FOUR);
        for (int way = 0; way < 5; way++) {
            x.say(0, way);
            range("alter(i, 5) by " + way, 0, 0, TOKENS_OF_EIGHT[way] - 1, 411, i -> x.alter(i, 5));
        }
        x.say(0, 1);
        range("alter(0, token)", 0, 0, 1023, 0, t -> x.alter(0, t));
        due("what was put last", x.alter(0, 7), 1023);
        due("count(2)", x.count(2), 8);
    }

    private static void alterWithoutASaying() {
        SaidWoven x = eightWords(FOUR);
        due("alter(0, 0)", x.alter(0, 0), BAD);
        due("alter(-1, 0)", x.alter(-1, 0), BAD);
        x.say(0, 0);
        due("alter(7, 0)", x.alter(7, 0), 411);
        x.lay();
        due("alter(0, 0) after lay", x.alter(0, 0), BAD);
    }

    private static void alterOneAlone() {
        SaidWoven x = eightWords(FOUR);
        x.say(0, 0);
        x.alter(3, 1023);
        int[] tokens = {0, 137, 274, 1023, 0, 137, 274, 411};
        for (int i = 0; i < 8; i++) {
            due("token " + i, x.alter(i, tokens[i]), tokens[i]);
        }
        due("the verse stays", x.said(0, 0, 3), 411);
    }

    // ---- promise 13

    private static void soundSoWithoutASaying() {
        SaidWoven x = laid(FOUR);
        due("soundSo", x.soundSo(), NO);
        x.keep();
        verse(x, 0, 0);
        x.say(0, 0);
        due("soundSo of a saying", x.soundSo(), 1);
        x.back();
        due("soundSo back without one", x.soundSo(), NO);
    }

    private static void soundSoOfNoneOneAndMost() {
        // the inner words' edges all become 0, so that any of the words sounds like any other there
        StringBuilder alike = new StringBuilder(words(16));
        for (int l = 0; l < 8; l++) {
            alike.append("j").append(l).append(",0,0,0;j").append(l).append(",1,0,0;");
        }
        SaidWoven x = laid(alike.toString());
        verse(x, 0, 0, 0, 0, 0, 0, 0, 0, 0);
        x.say(0, 0);
        due("8 that begin so, 2 that end so, 16 six times", x.soundSo(), 16L * 16 * 16 * 16 * 16 * 16 * 8 * 2);
        x.say(0, 1);
        due("parted", x.soundSo(), 1);
        x.alter(7, 1023);
        due("a token of no word", x.soundSo(), 0);
        SaidWoven lone = laid("w1,2,3;");
        verse(lone, 0, 0, 0, 0, 0, 0, 0, 0, 0);
        for (int way = 0; way < 5; way++) {
            lone.say(0, way);
            due("the only row by " + way, lone.soundSo(), 1);
            lone.alter(TOKENS_OF_EIGHT[way] - 1, 0);
            due("its last token altered by " + way, lone.soundSo(), 0);
        }
    }

    // ---- promise 14

    private static void nearestRange() {
        SaidWoven x = sixVerses();
        x.say(1, 0);
        range("nearest(verse)", 0, 0, 5, 0, x::nearest);
        verseIs("the first", x, 0, 1, 3);
        verseIs("the last", x, 5, 1, 3);
        verseIs("another", x, 2, 2, 3);
        due("count(6)", x.count(6), 12);
    }

    private static void nearestWithoutASaying() {
        SaidWoven x = sixVerses();
        range("nearest(verse) without a saying", 0, NO, 5, NO, x::nearest);
        verseIs("after NO", x, 0, 0, 3);
        verseIs("after NO", x, 5, 1, 3);
    }

    private static void nearestWithAllUnlike() {
        SaidWoven x = eightWords(words(16));
        for (int way = 0; way < 5; way++) {
            int many = x.say(0, way);
            for (int i = 0; i < many; i++) {
                x.alter(i, 1023);
            }
            due("all of " + many + " are unlike", x.nearest(1), TOKENS_OF_EIGHT[way]);
            verseIs("the lowest of all rows", x, 1, 0, 0, 0, 0, 0, 0, 0, 0);
            due("all rows: more than an int holds", x.rivals(), 4294967296L);
            due("none sounds so", x.soundSo(), 0);
        }
    }

    private static void nearestOfOneWord() {
        SaidWoven x = laid(words(16));
        for (int way = 0; way < 5; way++) {
            verse(x, 0, 15);
            x.say(0, way);
            verse(x, 0, 1, 2, 3, 4, 5, 6, 7, 8);
            due("nearest by " + way, x.nearest(0), 0);
            verseIs("the last word, one place", x, 0, 15);
            x.alter(0, 1023);
            due("nearest, altered, by " + way, x.nearest(0), 1);
            verseIs("the first word, one place", x, 0, 0);
            due("rivals by " + way, x.rivals(), 16);
        }
    }

    private static void ofSeveralTheLowest() {
        SaidWoven x = laid(HIDING);
        verse(x, 0, 2, 1, 2, 1);
        x.say(0, 0);
        due("of four that sound so", x.nearest(1), 0);
        verseIs("the first lowest, then the third", x, 1, 0, 1, 0, 1);
        due("rivals", x.rivals(), 4);
        // the first word decides before the second: 0 1 and 1 0 are as near
        SaidWoven y = laid("w0,0,0;w0,1,0;");
        verse(y, 0, 1, 0);
        y.say(0, 3);
        y.alter(0, 0);
        y.alter(3, 0);
        y.alter(1, 8);
        y.alter(2, 8);
        due("four of six altered", y.nearest(1), 2);
        verseIs("what four say", y, 1, 0, 1);
        y.alter(0, 8);
        y.alter(1, 1023);
        due("one for each, one for none", y.nearest(1), 3);
        verseIs("the first decides", y, 1, 1, 0);
        y.alter(4, 1023);
        due("as many for each", y.nearest(1), 4);
        verseIs("the lowest, then what two say", y, 1, 0, 0);
        due("rivals", y.rivals(), 4);
    }

    /** Each token of each way counts by itself, none together with another. */
    private static void everyTokenAlone() {
        int[] plain = {0, 1, 2, 3, 0, 1, 2, 3};
        for (int way = 0; way < 5; way++) {
            for (int i = 0; i < TOKENS_OF_EIGHT[way]; i++) {
                SaidWoven x = eightWords(FOUR);
                x.say(0, way);
                x.alter(i, 1);
                due("token " + i + " of way " + way + " altered", x.nearest(1), 1);
                due("soundSo", x.soundSo(), 0);
                // a place that is said but once may have any word then
                boolean isOnce = way < 2 || way == 2 && (i == 0 || i == 13);
                int place = way < 2 ? i : i == 0 ? 0 : 7;
                due("rivals", x.rivals(), isOnce ? 4 : 1);
                int[] row = plain.clone();
                row[place] = isOnce ? 0 : row[place];
                verseIs("token " + i + " of way " + way + " altered", x, 1, row);
            }
        }
    }

    /** By DENSE the second word of three is joined thrice to one before and one behind it. */
    private static void threeTokensOfTheMiddleWord() {
        SaidWoven x = laid(FOUR);
        verse(x, 0, 0, 1, 2);
        x.say(0, 4);
        int[] middles = {5, 8, 11};
        for (int i = 0; i < 3; i++) {
            x.alter(middles[i], 1 + i);
            due("so many altered: " + (i + 1), x.nearest(1), i + 1);
            verseIs("the verse yet", x, 1, 0, 1, 2);
        }
        // the same edges before, others behind
        SaidWoven y = laid("w0,0,0;w0,0,1;w0,0,2;w0,0,3;");
        verse(y, 0, 3, 0, 3);
        y.say(0, 4);
        for (int i = 0; i < 3; i++) {
            y.alter(middles[i], 1 + i);
            due("so many with another last edge: " + (i + 1), y.nearest(1), i + 1);
            verseIs("the verse yet", y, 1, 3, 0, 3);
        }
        due("rivals", y.rivals(), 1);
        // at each place, with as many words and places as there may be
        SaidWoven z = eightWords(words(16));
        z.say(0, 4);
        for (int group = 0; group < 6; group++) {
            for (int i = 0; i < 3; i++) {
                z.alter(13 * group + middles[i], 1021 + i);
            }
            due("altered in so many groups: " + (group + 1), z.nearest(1), 3 * group + 3);
            verseIs("the verse yet", z, 1, 0, 1, 2, 3, 0, 1, 2, 3);
            due("rivals", z.rivals(), 1);
        }
        verse(z, 0, 15, 15, 15, 15, 15, 15, 15, 15);
        z.say(0, 4);
        for (int i = 0; i < 3; i++) {
            z.alter(middles[i], 128 + i);
        }
        due("the last word with other last edges", z.nearest(1), 3);
        verseIs("the last word at each place", z, 1, 15, 15, 15, 15, 15, 15, 15, 15);
    }

    private static void askedAgain() {
        SaidWoven x = laid(FOUR);
        verse(x, 0, 1, 0, 2);
        x.say(0, 0);
        x.alter(0, 1);
        x.alter(2, 1);
        for (int i = 0; i < 5; i++) {
            due("nearest asked again", x.nearest(1), 2);
            due("rivals asked again", x.rivals(), 16);
            due("soundSo asked again", x.soundSo(), 0);
            due("far asked again", x.far(0, 1, 0), 1);
            due("far by all asked again", x.far(0, 31, 0), 11);
            due("best asked again", x.best(0, 2, 1), 8);
        }
    }

    // ---- promise 15

    private static void rivalsWithoutASaying() {
        SaidWoven x = eightWords(FOUR);
        due("rivals", x.rivals(), NO);
        x.say(0, 0);
        due("rivals of a saying", x.rivals(), 1);
        x.lay();
        due("rivals after lay", x.rivals(), NO);
    }

    private static void rivalsFromOneToAll() {
        SaidWoven x = eightWords(FOUR);
        x.say(0, 1);
        long rows = 1;
        for (int i = 0; i < 8; i++) {
            due("rivals with " + i + " tokens of no word", x.rivals(), rows);
            x.alter(i, 1);
            rows *= 4;
        }
        due("rivals with all of no word", x.rivals(), 65536);
        SaidWoven lone = laid("w1,2,3;");
        verse(lone, 0, 0, 0);
        lone.say(0, 0);
        lone.alter(0, 0);
        lone.alter(1, 0);
        due("the only row", lone.rivals(), 1);
    }

    // ---- promise 16

    private static void farRange() {
        SaidWoven x = sixVerses();
        range("far(verse, 31, 0)", 0, 9, 5, 9, v -> x.far(v, 31, 0));
        range("far(0, ways, 0)", 0, 0, 31, 9, w -> x.far(0, w, 0));
        range("far(0, 31, what)", 0, 9, 2, 4, w -> x.far(0, 31, w));
        due("far(0, 31, 1)", x.far(0, 31, 1), 8);
    }

    private static void farOfAnEmptyVerse() {
        SaidWoven x = laid(FOUR);
        range("far(verse, 31, 0) of empty verses", 0, NO, 5, NO, v -> x.far(v, 31, 0));
        range("far(0, ways, 0) of an empty verse", 0, NO, 31, NO, w -> x.far(0, w, 0));
        range("far(0, 31, what) of an empty verse", 0, NO, 2, NO, w -> x.far(0, 31, w));
        x.add(0, 0);
        due("of one word", x.far(0, 1, 0), 1);
        x.clear(0);
        due("of a cleared verse", x.far(0, 1, 0), NO);
    }

    private static void farWithNoOtherRow() {
        SaidWoven x = laid("w1,2,3;");
        range("far(verse, 31, 0) of empty verses, one word", 0, NO, 5, NO, v -> x.far(v, 31, 0));
        for (int v = 0; v < 6; v++) {
            x.add(v, 0);
        }
        range("far(verse, 31, 0) of one word", 0, NONE, 5, NONE, v -> x.far(v, 31, 0));
        range("far(0, ways, 0) of one word", 0, NONE, 31, NONE, w -> x.far(0, w, 0));
        range("far(0, 31, what) of one word", 0, NONE, 2, NONE, w -> x.far(0, 31, w));
        for (int i = 2; i <= 8; i++) {
            x.add(0, 0);
            due("far of the word " + i + " times", x.far(0, 31, 0), NONE);
        }
        SaidWoven two = laid("w1,2,3;w1,2,4;");
        two.add(0, 1);
        due("far of two words", two.far(0, 31, 0), 5);
    }

    private static void farByNoWay() {
        SaidWoven x = eightWords(FOUR);
        for (int what = 0; what < 3; what++) {
            due("far(0, 0, " + what + ")", x.far(0, 0, what), 0);
        }
    }

    private static void showsAndMendsAtLeastNought() {
        SaidWoven x = laid(FOUR);
        x.add(0, 0);
        // a verse of one word is FAR one token by each way
        for (int ways = 0; ways < 32; ways++) {
            int far = Integer.bitCount(ways);
            due("far by " + ways, x.far(0, ways, 0), far);
            due("shows by " + ways, x.far(0, ways, 1), new int[] {0, 0, 1, 2, 3, 4}[far]);
            due("mends by " + ways, x.far(0, ways, 2), new int[] {0, 0, 0, 1, 1, 2}[far]);
        }
        SaidWoven hiding = laid(HIDING);
        verse(hiding, 0, 0, 1);
        for (int what = 0; what < 3; what++) {
            due("a way that hides: far(0, 1, " + what + ")", hiding.far(0, 1, what), 0);
        }
    }

    private static void farOfEightWords() {
        SaidWoven x = eightWords(FOUR);
        // the first place comes once, once, once, three and five times
        int[] far = {1, 1, 1, 3, 5};
        for (int ways = 0; ways < 32; ways++) {
            int sum = 0;
            for (int way = 0; way < 5; way++) {
                sum += (ways >> way & 1) * far[way];
            }
            due("far of eight words by " + ways, x.far(0, ways, 0), sum);
        }
    }

    private static void hiddenAtEachPlace() {
        // behind word 0 words 1 and 2 sound alike, and before word 0 words 3 and 4 do
        SaidWoven x = laid("w0,1,2;w3,4,5;w6,4,5;w3,8,4;w3,8,6;j2,3,2,7;j2,6,2,7;j4,0,1,0;j6,0,1,0;");
        for (int p = 1; p < 8; p++) {
            int[] row = new int[8];
            row[p] = 1;
            verse(x, 0, row);
            due("word 2 for word 1 at " + p + " is hidden by joined", x.far(0, 1, 0), 0);
            due("and shown by parted", x.far(0, 2, 0), 1);
            row[p] = 0;
            row[p - 1] = 3;
            verse(x, 1, row);
            due("word 4 for word 3 at " + (p - 1) + " is hidden by joined", x.far(1, 1, 0), 0);
            due("and shown by parted", x.far(1, 2, 0), 1);
        }
        verse(x, 2, 0, 0, 0, 0, 0, 0, 0, 0);
        due("nothing is hidden here", x.far(2, 1, 0), 1);
        verse(x, 2, 1);
        due("nor in one word", x.far(2, 1, 0), 1);
        verse(x, 2, 1, 0);
        due("nor before word 0", x.far(2, 1, 0), 1);
        verse(x, 2, 0, 3);
        due("nor behind word 0", x.far(2, 1, 0), 1);
    }

    // ---- promise 17

    private static void bestRange() {
        SaidWoven x = sixVerses();
        range("best(verse, 5, 1)", 0, 9, 5, 9, v -> x.best(v, 5, 1));
        range("best(0, hours, 0)", 0, 0, 495, 31, h -> x.best(0, h, 0));
        range("best(0, hours, 1)", 0, 0, 495, 9, h -> x.best(0, h, 1));
        range("best(0, 5, what)", 0, 31, 1, 9, w -> x.best(0, 5, w));
    }

    private static void bestOfAnEmptyVerse() {
        SaidWoven x = laid(FOUR);
        range("best(verse, 5, 0) of empty verses", 0, NO, 5, NO, v -> x.best(v, 5, 0));
        range("best(0, hours, 0) of an empty verse", 0, NO, 495, NO, h -> x.best(0, h, 0));
        range("best(0, 5, what) of an empty verse", 0, NO, 1, NO, w -> x.best(0, 5, w));
        x.add(0, 0);
        x.clear(0);
        due("of a cleared verse", x.best(0, 5, 0), NO);
    }

    private static void bestWithNoOtherRow() {
        SaidWoven x = laid("w1,2,3;");
        due("of an empty verse, one word", x.best(0, 0, 0), NO);
        for (int v = 0; v < 6; v++) {
            x.add(v, 0);
        }
        range("best(verse, 5, 0) of one word", 0, NONE, 5, NONE, v -> x.best(v, 5, 0));
        range("best(0, hours, 0) of one word", 0, NONE, 495, NONE, h -> x.best(0, h, 0));
        range("best(0, 5, what) of one word", 0, NONE, 1, NONE, w -> x.best(0, 5, w));
    }

    private static void noMoreHoursThanTold() {
        int[] hours = {1, 2, 4, 8, 16};
        SaidWoven x = laid(FOUR + "h0,1;h1,2;h2,4;h3,8;h4,16;");
        x.add(0, 0);
        // a verse of one word is FAR one token by each way, and a set's bits are its hours
        for (int most = 0; most <= 32; most++) {
            int best = 0;
            for (int set = 0; set <= Math.min(31, most); set++) {
                best = Integer.bitCount(set) > Integer.bitCount(best) ? set : best;
            }
            due("best(0, " + most + ", 0)", x.best(0, most, 0), best);
            due("best(0, " + most + ", 1)", x.best(0, most, 1), Integer.bitCount(best));
        }
        for (int way = 0; way < 5; way++) {
            StringBuilder dear = new StringBuilder(FOUR);
            for (int other = 0; other < 5; other++) {
                dear.append("h").append(other).append(",").append(other == way ? hours[way] : 99).append(";");
            }
            SaidWoven y = laid(dear.toString());
            y.add(0, 0);
            due("one hour too few for " + way, y.best(0, hours[way] - 1, 0), 0);
            due("just the hours of " + way, y.best(0, hours[way], 0), 1 << way);
        }
    }

    private static void hoursFromNoughtToNinetyNine() {
        SaidWoven x = laid(FOUR + "h0,0;h1,0;h2,0;h3,0;h4,0;");
        x.add(0, 0);
        due("all ways for no hours", x.best(0, 0, 0), 31);
        due("all ways for no hours, far", x.best(0, 0, 1), 5);
        SaidWoven y = laid(FOUR + "h0,99;h1,99;h2,99;h3,99;h4,99;");
        y.add(0, 0);
        int[][] due = {{0, 0}, {98, 0}, {99, 1}, {197, 1}, {198, 3}, {296, 3}, {297, 7}, {395, 7}, {396, 15}, {494, 15}, {495, 31}};
        for (int[] row : due) {
            due("best(0, " + row[0] + ", 0)", y.best(0, row[0], 0), row[1]);
        }
        SaidWoven z = laid(FOUR);
        z.add(0, 0);
        int[] sets = {0, 1, 3, 7, 15, 31, 31};
        for (int hours = 0; hours <= 6; hours++) {
            due("one hour each: best(0, " + hours + ", 0)", z.best(0, hours, 0), sets[hours]);
        }
    }

    private static void ofSeveralTheLeastBits() {
        // joined takes no hours and hides; the others are too dear
        SaidWoven x = laid(HIDING + "h0,0;h1,9;h2,9;h3,9;h4,9;");
        verse(x, 0, 0, 1);
        due("a way that shows nothing is left out", x.best(0, 8, 0), 0);
        due("how far by none", x.best(0, 8, 1), 0);
        due("with parted, not joined", x.best(0, 9, 0), 2);
        // stepped is as far as joined and parted, and has more bits than both
        SaidWoven y = eightWords(FOUR + "h3,99;h4,99;");
        due("one of three", y.best(0, 1, 0), 1);
        due("two of three", y.best(0, 2, 0), 3);
        due("all three", y.best(0, 3, 0), 7);
        // dense alone is as far as braided, joined and parted
        SaidWoven z = eightWords(FOUR + "h2,99;h3,1;h4,3;");
        due("less bits before fewer ways", z.best(0, 3, 0), 11);
        due("how far", z.best(0, 3, 1), 5);
    }

    private static void theLastHoursTold() {
        SaidWoven x = laid(FOUR + "h0,0;h0,99;h1,99;h1,0;h2,99;h3,99;h4,99;");
        x.add(0, 0);
        due("the last one told", x.best(0, 98, 0), 2);
    }

    // ---- promise 18

    private static void learntRange() {
        SaidWoven x = sixVerses();
        range("learnt(verse, 1, 0)", 0, 31, 5, 31, v -> x.learnt(v, 1, 0));
        range("learnt(0, place, 1)", 0, 31, 1, 31, p -> x.learnt(0, p, 1));
        range("learnt(1, 1, word)", 0, 31, 2, 31, w -> x.learnt(1, 1, w));
        range("learnt(1, 0, word)", 0, 31, 3, 31, w -> w == 1 ? 31 : x.learnt(1, 0, w));
        SaidWoven y = eightWords(words(16));
        range("learnt(0, place, 15)", 0, 31, 7, 31, p -> y.learnt(0, p, 15));
        range("learnt(0, 1, word)", 0, 31, 15, 31, w -> y.learnt(0, 1, w));
    }

    private static void learntWhereNoneIs() {
        SaidWoven x = laid(FOUR);
        for (int size = 0; size <= 8; size++) {
            for (int p = -1; p <= 8; p++) {
                due("learnt(0, " + p + ", 1) of " + size, x.learnt(0, p, 1), p >= 0 && p < size ? 31 : BAD);
            }
            x.add(0, 0);
        }
        x.clear(0);
        due("learnt(0, 0, 1) of a cleared verse", x.learnt(0, 0, 1), BAD);
    }

    private static void learntTheSameWord() {
        SaidWoven x = eightWords(FOUR);
        for (int p = 0; p < 8; p++) {
            for (int w = 0; w < 4; w++) {
                due("learnt(0, " + p + ", " + w + ")", x.learnt(0, p, w), w == p % 4 ? BAD : 31);
            }
        }
    }

    // ---- promise 19

    private static void slipRange() {
        range("slip(verse, 0, 0)", 0, 1, 5, 1, v -> laid(FOUR).slip(v, 0, 0));
        range("slip(0, place, 0) of an empty verse", 0, 1, 7, 1, p -> laid(FOUR).slip(0, p, 0));
        range("slip(0, 0, word)", 0, 1, 3, 1, w -> laid(FOUR).slip(0, 0, w));
        range("slip(0, 0, word) of sixteen", 0, 1, 15, 1, w -> laid(words(16)).slip(0, 0, w));
        range("slip(0, 0, word) of one", 0, 1, 0, 1, w -> laid("w1,2,3;").slip(0, 0, w));
        SaidWoven x = eightWords(FOUR);
        range("slip(0, place, 0) of eight words", 0, 1, 7, 2, p -> x.slip(0, p, 0));
        due("count(3) after BAD", x.count(3), 2);
    }

    private static void twentySlipsAtMost() {
        SaidWoven x = eightWords(FOUR);
        for (int i = 1; i <= 20; i++) {
            due("slip " + i, x.slip(0, i % 8, 0), i);
        }
        due("slip 21", x.slip(0, 0, 1), FULL);
        due("slip 22", x.slip(0, 0, 1), FULL);
        due("count(3)", x.count(3), 20);
        range("slip(verse, 0, 0), full", 0, FULL, 5, FULL, v -> x.slip(v, 0, 0));
        range("slip(0, place, 0), full", 0, FULL, 7, FULL, p -> x.slip(0, p, 0));
        range("slip(0, 0, word), full", 0, FULL, 3, FULL, w -> x.slip(0, 0, w));
        due("noSlips", x.noSlips(), 20);
        due("slip after it", x.slip(0, 0, 1), 1);
    }

    // ---- promise 20

    private static void noSlipsOfNoneAndTwenty() {
        SaidWoven x = eightWords(FOUR);
        due("noSlips of none", x.noSlips(), 0);
        x.slip(0, 0, 1);
        due("noSlips of one", x.noSlips(), 1);
        for (int i = 1; i <= 20; i++) {
            due("slip " + i, x.slip(0, 0, 1), i);
        }
        due("noSlips of twenty", x.noSlips(), 20);
        due("noSlips again", x.noSlips(), 0);
        due("count(3)", x.count(3), 0);
        for (int what = 0; what < 4; what++) {
            due("slips(" + what + ")", x.slips(what), 0);
        }
    }

    // ---- promise 21

    private static void slipsRange() {
        SaidWoven x = eightWords(FOUR);
        x.slip(0, 0, 1);
        x.slip(0, 7, 2);
        range("slips(what)", 0, 0, 3, 2, x::slips);
        due("slips(1)", x.slips(1), 1);
        due("slips(2)", x.slips(2), 2);
    }

    private static void slipsOfNone() {
        SaidWoven x = eightWords(FOUR);
        for (int what = 0; what < 4; what++) {
            due("slips(" + what + ") of none", x.slips(what), 0);
        }
        x.slip(0, 0, 0);
        x.slip(1, 0, 1);
        for (int what = 0; what < 4; what++) {
            due("slips(" + what + ") of none that are such", x.slips(what), 0);
        }
    }

    private static void slipsThatAreSuch() {
        for (int place = 0; place < 8; place++) {
            SaidWoven x = laid(FOUR);
            x.slip(3, place, 1);
            for (int size = 0; size <= 8; size++) {
                due("a slip at " + place + " of " + size, x.slips(3), place < size ? 1 : 0);
                due("its ways", x.slips(1), place < size ? 1 : 0);
                due("listed", x.slips(2), place < size ? 1 : 0);
                x.add(3, 0);
            }
            x.clear(3);
            due("of a cleared verse", x.slips(3), 0);
            verse(x, 3, 1, 1, 1, 1, 1, 1, 1, 1);
            due("the same word", x.slips(3), 0);
            verse(x, 4, 0, 0, 0, 0, 0, 0, 0, 0);
            due("another verse", x.slips(3), 0);
            due("it is told yet", x.count(3), 1);
        }
    }

    private static void twentySuchSlips() {
        SaidWoven x = laid(HIDING);
        verse(x, 0, 0, 1);
        for (int i = 0; i < 20; i++) {
            x.slip(0, 0, 2);
        }
        due("hidden", x.slips(0), 20);
        due("fewest", x.slips(1), 2);
        due("listed", x.slips(2), 0);
        due("such", x.slips(3), 20);
        SaidWoven y = laid(HIDING);
        verse(y, 0, 0, 1);
        for (int i = 0; i < 19; i++) {
            y.slip(0, 0, 1);
        }
        y.slip(0, 0, 2);
        due("the last one is hidden", y.slips(0), 1);
        due("for the last one parted", y.slips(1), 2);
        due("all but the last are listed", y.slips(2), 19);
    }

    private static void hiddenByJoinedAlone() {
        SaidWoven x = laid(HIDING);
        verse(x, 0, 1, 0, 1);
        verse(x, 1, 1, 0);
        x.slip(0, 1, 2);
        due("hidden by joined, shown by stepped", x.learnt(0, 1, 2), 30);
        due("hidden", x.slips(0), 1);
        x.slip(1, 1, 2);
        due("at the end its last edge is said as it is", x.learnt(1, 1, 2), 31);
        due("hidden", x.slips(0), 1);
    }

    private static void listedAtTheLeast() {
        SaidWoven x = laid("w0,0,0;w0,0,7;w0,15,0;w0,1,0;w7,0,0;w1,0,0;");
        verse(x, 0, 0);
        int[] listed = {0, 1, 2, 3, 4};
        for (int w = 1; w <= 5; w++) {
            x.slip(0, 0, w);
            due("listed with word " + w, x.slips(2), listed[w - 1]);
        }
        due("all are shown by joined", x.slips(1), 1);
    }

    // ---- promise 22

    private static void listRange() {
        SaidWoven x = laid("w7,15,0;w0,3,0;");
        for (int v = 0; v < 6; v++) {
            verse(x, v, 0, 0, 1);
        }
        range("list(verse, 7)", 0, 2, 5, 2, v -> x.list(v, 7));
        range("list(0, e)", 0, 1, 8, 1, e -> x.list(0, e));
        due("list(0, 7)", x.list(0, 7), 2);
        due("list(0, 1)", x.list(0, 1), 0);
        due("list(0, 6)", x.list(0, 6), 0);
    }

    private static void listOfAnEmptyVerse() {
        SaidWoven x = laid("w7,15,0;w0,3,0;");
        for (int v = 0; v < 6; v++) {
            int verse = v;
            range("list(" + v + ", e) of an empty verse", 0, 0, 8, 0, e -> x.list(verse, e));
        }
        verse(x, 0, 0, 1);
        x.clear(0);
        for (int e = 0; e <= 8; e++) {
            due("list(0, " + e + ") of a cleared verse", x.list(0, e), 0);
        }
    }

    private static void listOfEight() {
        StringBuilder text = new StringBuilder();
        for (int e = 0; e < 8; e++) {
            text.append("w").append(e).append(",1,").append(7 - e).append(";");
        }
        SaidWoven x = laid(text.toString());
        verse(x, 0, 0, 1, 2, 3, 4, 5, 6, 7);
        for (int e = 0; e < 8; e++) {
            due("each once: list(0, " + e + ")", x.list(0, e), 1);
            verse(x, 1, e, e, e, e, e, e, e, e);
            for (int other = 0; other < 8; other++) {
                due("eight times " + e + ": list(1, " + other + ")", x.list(1, other), other == e ? 8 : 0);
            }
        }
        due("the sum", x.list(0, 8), 8);
    }

    private static void sumModuloSixteen() {
        SaidWoven x = laid("w0,15,0;w0,1,0;w0,0,0;");
        int[] sums = {15, 14, 13, 12, 11, 10, 9, 8};
        for (int i = 0; i < 8; i++) {
            x.add(0, 0);
            due("15 so many times: " + (i + 1), x.list(0, 8), sums[i]);
        }
        verse(x, 1, 0, 1);
        due("15 and 1", x.list(1, 8), 0);
        verse(x, 2, 2, 2);
        due("0 and 0", x.list(2, 8), 0);
        verse(x, 3, 0, 2);
        due("15 and 0", x.list(3, 8), 15);
    }
}
