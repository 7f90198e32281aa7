/**
 * Each sentence about heads, odds and what is kept (promises 23 to 32) that names a boundary
 * case: the last that is allowed and the first beyond it, the empty and the full, the refused.
 */
public final class HeadBoundaryTests extends Checks {
    private static final int ALL_SIXTEEN = 65535;

    public static void main(String[] args) {
        promise = 23;
        headRange(); taughtByNone(); taughtByOneThereIs(); taughtInAnEarlierYear(); sixteenHeadsAtMost();
        promise = 24;
        aliveRange(); aliveAtFirst(); aliveWasAndIs();
        promise = 25;
        sameRange(); sameIfNoneHasIt(); sameAtTheLastPlace(); sameOfThoseAliveAlone();
        promise = 26;
        sinceRange(); sinceOfNobody(); sinceAtTheEndsOfYears(); sinceIfNotAllHaveIt(); sinceWithNoHeadInCommon();
        sinceTaughtByItself(); sinceOfSixteenInARow();
        promise = 27;
        lostRange(); lostWithNobody(); lostOfAll(); lostOfThoseAliveAlone();
        promise = 28;
        fromRange(); fromNobody(); fromTheLowestAndTheHighest();
        promise = 29;
        oddsRange(); oddsNoughtAndOne(); oddsAtTheMost(); oddsInLowestTerms();
        promise = 30;
        keepTwoAtMost(); keptAsItWas();
        promise = 31;
        backWithNothingKept(); backTheLastFirst(); backOfEmptyAndFull();
        promise = 32;
        countRange(); countAtTheMost();
        end("the boundaries of heads, odds and what is kept hold");
    }

    private static SaidWoven heads(int many) {
        SaidWoven x = laid(FOUR);
        for (int h = 0; h < many; h++) {
            due("head " + h, x.head(h, h - 1, h % 6), h);
        }
        return x;
    }

    // ---- promise 23

    private static void headRange() {
        range("head(year, -1, 0)", 0, 0, 3000, 0, year -> new SaidWoven().head(year, -1, 0));
        range("head(0, -1, verse)", 0, 0, 5, 0, verse -> new SaidWoven().head(0, -1, verse));
        SaidWoven x = new SaidWoven();
        x.head(3001, -1, 0);
        x.head(-1, -1, 0);
        x.head(0, -1, 6);
        x.head(0, -2, 0);
        due("count(4) after BAD", x.count(4), 0);
        due("the first one", x.head(3000, -1, 5), 0);
    }

    private static void taughtByNone() {
        SaidWoven x = new SaidWoven();
        due("head(0, -1, 0)", x.head(0, -1, 0), 0);
        due("head(3000, -1, 0)", x.head(3000, -1, 0), 1);
        due("head(0, -1, 0) behind a later one", x.head(0, -1, 0), 2);
    }

    private static void taughtByOneThereIs() {
        range("head(3000, by, 0) of none", -1, 0, -1, 0, by -> new SaidWoven().head(3000, by, 0));
        for (int many = 1; many <= 15; many++) {
            int there = many;
            range("head(3000, by, 0) of " + many, -1, many, many - 1, many, by -> heads(there).head(3000, by, 0));
        }
    }

    private static void taughtInAnEarlierYear() {
        int[] years = {0, 1, 2, 1500, 2999, 3000};
        for (int teacher : years) {
            for (int year : years) {
                SaidWoven x = new SaidWoven();
                x.head(teacher, -1, 0);
                due("head(" + year + ") by one of " + teacher, x.head(year, 0, 0), teacher < year ? 1 : BAD);
                due("count(4)", x.count(4), teacher < year ? 2 : 1);
            }
        }
    }

    private static void sixteenHeadsAtMost() {
        SaidWoven x = heads(16);
        due("count(4)", x.count(4), 16);
        range("head(year, -1, 0), full", 0, FULL, 3000, FULL, year -> x.head(year, -1, 0));
        range("head(3000, by, 0), full", -1, FULL, 15, FULL, by -> x.head(3000, by, 0));
        range("head(3000, 15, verse), full", 0, FULL, 5, FULL, verse -> x.head(3000, 15, verse));
        due("by one not earlier, full", x.head(15, 15, 0), BAD);
        due("by one a year earlier, full", x.head(16, 15, 0), FULL);
        due("count(4) after FULL", x.count(4), 16);
        x.lay();
        due("the first one after lay", x.head(0, -1, 0), 0);
    }

    // ---- promise 24

    private static void aliveRange() {
        for (int many = 1; many <= 16; many++) {
            SaidWoven x = heads(many);
            range("alive(head, true) of " + many, 0, 1, many - 1, 1, h -> x.alive(h, true));
            range("alive(head, false) of " + many, 0, 1, many - 1, many == 1 ? 0 : 1, h -> x.alive(h, false));
        }
        for (int h : new int[] {LOW, -1, 0, 1, HIGH}) {
            due("alive(" + h + ", true) of none", new SaidWoven().alive(h, true), BAD);
            due("alive(" + h + ", false) of none", new SaidWoven().alive(h, false), BAD);
        }
    }

    private static void aliveAtFirst() {
        SaidWoven x = heads(16);
        for (int h = 0; h < 16; h++) {
            due("alive at first: " + h, x.alive(h, false), 1);
        }
        x.lay();
        for (int h = 0; h < 16; h++) {
            x.head(0, -1, 0);
            due("alive at first after lay: " + h, x.alive(h, true), 1);
        }
    }

    private static void aliveWasAndIs() {
        SaidWoven x = heads(3);
        due("was", x.alive(1, false), 1);
        due("was not", x.alive(1, false), 0);
        due("was not", x.alive(1, true), 0);
        due("was", x.alive(1, true), 1);
        due("the one before", x.alive(0, true), 1);
        due("the one behind", x.alive(2, true), 1);
    }

    // ---- promise 25

    private static void sameRange() {
        SaidWoven x = new SaidWoven();
        range("same(place) of none", 0, 1, 7, 1, x::same);
        SaidWoven y = heads(2);
        verse(y, 0, 0, 0, 0, 0, 0, 0, 0, 0);
        verse(y, 1, 1, 0, 0, 0, 0, 0, 0, 1);
        range("same(place)", 0, 0, 7, 0, y::same);
        due("same(1)", y.same(1), 1);
        due("same(6)", y.same(6), 1);
    }

    private static void sameIfNoneHasIt() {
        SaidWoven x = heads(2);
        due("all have empty verses", x.same(0), 1);
        verse(x, 0, 0);
        due("one alone has it", x.same(0), 1);
        due("none has the next one", x.same(1), 1);
        verse(x, 1, 0, 1);
        due("both have it", x.same(0), 1);
        due("one alone has the next one", x.same(1), 1);
        x.add(0, 0);
        due("both have the next one, not the same", x.same(1), 0);
        due("none has the last one", x.same(7), 1);
    }

    private static void sameAtTheLastPlace() {
        SaidWoven x = heads(16);
        for (int v = 0; v < 6; v++) {
            verse(x, v, 0, 0, 0, 0, 0, 0, 0, 3);
        }
        due("same(7) of sixteen", x.same(7), 1);
        x.clear(5);
        due("same(7), some not having it", x.same(7), 1);
        verse(x, 5, 0, 0, 0, 0, 0, 0, 0, 2);
        due("same(7), some having another", x.same(7), 0);
    }

    private static void sameOfThoseAliveAlone() {
        SaidWoven x = heads(6);
        for (int v = 0; v < 6; v++) {
            verse(x, v, v == 5 ? 1 : 0);
        }
        due("the last one has another", x.same(0), 0);
        x.alive(5, false);
        due("the others have the same", x.same(0), 1);
        for (int h = 0; h < 5; h++) {
            x.alive(h, false);
        }
        due("nobody is alive", x.same(0), 1);
        x.alive(5, true);
        due("one is alive", x.same(0), 1);
        x.alive(0, true);
        due("the first and the last are alive", x.same(0), 0);
    }

    // ---- promise 26

    private static void sinceRange() {
        SaidWoven x = heads(1);
        verse(x, 0, 0, 0, 0, 0, 0, 0, 0, 3);
        range("since(place, 0)", 0, 0, 7, NONE, p -> x.since(p, 0));
        range("since(7, word)", 0, NONE, 3, 0, w -> x.since(7, w));
        range("since(place, 3)", 0, NONE, 7, 0, p -> x.since(p, 3));
        for (int many : new int[] {1, 2, 16}) {
            SaidWoven y = laid(words(many));
            y.head(9, -1, 0);
            y.add(0, many - 1);
            range("since(0, word) of " + many, 0, many == 1 ? 9 : NONE, many - 1, 9, w -> y.since(0, w));
        }
        SaidWoven z = new SaidWoven();
        z.head(0, -1, 0);
        for (int w : new int[] {LOW, -1, 0, HIGH}) {
            due("since(0, " + w + ") without words", z.since(0, w), BAD);
        }
    }

    private static void sinceOfNobody() {
        SaidWoven x = laid(FOUR);
        verse(x, 0, 0);
        range("since(place, 0) with no heads", 0, NONE, 7, NONE, p -> x.since(p, 0));
        range("since(0, word) with no heads", 0, NONE, 3, NONE, w -> x.since(0, w));
        x.head(5, -1, 0);
        due("one head", x.since(0, 0), 5);
        x.alive(0, false);
        due("nobody is alive", x.since(0, 0), NONE);
        x.alive(0, true);
        due("alive again", x.since(0, 0), 5);
    }

    private static void sinceAtTheEndsOfYears() {
        SaidWoven x = laid(FOUR);
        verse(x, 0, 2);
        x.head(0, -1, 0);
        due("year 0", x.since(0, 2), 0);
        x.head(3000, 0, 0);
        due("both alive: from the first", x.since(0, 2), 0);
        x.alive(0, false);
        due("year 3000", x.since(0, 2), 3000);
    }

    private static void sinceIfNotAllHaveIt() {
        SaidWoven x = heads(6);
        for (int v = 0; v < 6; v++) {
            verse(x, v, 1);
        }
        due("all have it", x.since(0, 1), 0);
        for (int v = 0; v < 6; v++) {
            x.clear(v);
            due("head " + v + " had it there", x.since(0, 1), NONE);
            verse(x, v, 2);
            due("head " + v + " has another", x.since(0, 1), NONE);
            x.clear(v);
            due("head " + v + " has none there", x.since(0, 1), NONE);
            x.alive(v, false);
            due("head " + v + " is not alive", x.since(0, 1), v == 0 ? 1 : 0);
            x.alive(v, true);
            verse(x, v, 1);
        }
        due("none has the next place", x.since(1, 1), NONE);
    }

    private static void sinceWithNoHeadInCommon() {
        SaidWoven x = laid(FOUR);
        verse(x, 0, 1);
        x.head(10, -1, 0);
        x.head(20, -1, 0);
        due("two taught by none", x.since(0, 1), NONE);
        x.head(30, 0, 0);
        x.alive(0, false);
        due("1 taught by none, 2 by 0", x.since(0, 1), NONE);
        x.alive(1, false);
        due("2 alone", x.since(0, 1), 30);
        x.head(25, 0, 0);
        due("2 and 3, by 0 who is not alive", x.since(0, 1), 10);
        x.clear(1);
        x.head(40, 1, 0);
        due("2 and 3 by 0, 4 by 1", x.since(0, 1), NONE);
    }

    private static void sinceTaughtByItself() {
        SaidWoven x = laid(FOUR);
        verse(x, 0, 1);
        x.head(10, -1, 0);
        x.head(20, 0, 0);
        x.head(30, 1, 0);
        due("0, 1 and 2", x.since(0, 1), 10);
        x.alive(0, false);
        due("1 and 2: from 1 itself", x.since(0, 1), 20);
        x.alive(1, false);
        due("2: from itself", x.since(0, 1), 30);
        x.alive(0, true);
        due("0 and 2: from 0 itself", x.since(0, 1), 10);
    }

    private static void sinceOfSixteenInARow() {
        SaidWoven x = heads(16);
        for (int v = 0; v < 6; v++) {
            verse(x, v, 3);
        }
        for (int h = 0; h < 16; h++) {
            due("from head " + h, x.since(0, 3), h);
            x.alive(h, false);
        }
        due("nobody", x.since(0, 3), NONE);
    }

    // ---- promise 27

    private static void lostRange() {
        for (int many = 0; many <= 16; many++) {
            SaidWoven x = heads(many);
            int all = (1 << many) - 1;
            int verses = (1 << Math.min(6, many)) - 1;
            range("lost(heads) of " + many, 0, 0, all, verses, x::lost);
            for (int h = many; h < 32; h++) {
                due("lost with head " + h + " of " + many, x.lost(1 << h), BAD);
            }
            due("lost with one that there is not, too", x.lost(all | 1 << many), BAD);
        }
    }

    private static void lostWithNobody() {
        SaidWoven x = heads(6);
        due("lost with none", x.lost(0), 0);
        for (int h = 0; h < 6; h++) {
            due("lost with " + h, x.lost(1 << h), 1 << h);
        }
        x.head(100, -1, 5);
        due("another has it yet", x.lost(32), 0);
        due("both are gone", x.lost(96), 32);
    }

    private static void lostOfAll() {
        SaidWoven x = heads(16);
        due("lost with all sixteen", x.lost(ALL_SIXTEEN), 63);
        due("lost with all but the last", x.lost(ALL_SIXTEEN >> 1), 63 - (1 << 15 % 6));
        due("lost with all but the first", x.lost(ALL_SIXTEEN - 1), 62);
        due("lost with the last", x.lost(32768), 0);
    }

    private static void lostOfThoseAliveAlone() {
        SaidWoven x = laid(FOUR);
        x.head(0, -1, 0);
        x.head(0, -1, 0);
        due("the other has it yet", x.lost(1), 0);
        x.alive(1, false);
        due("the other is not alive", x.lost(1), 1);
        due("who is not alive had none", x.lost(2), 0);
        due("both", x.lost(3), 1);
        x.alive(0, false);
        due("none was alive", x.lost(3), 0);
    }

    // ---- promise 28

    private static void fromRange() {
        for (int many = 0; many <= 16; many++) {
            SaidWoven x = heads(many);
            int all = (1 << many) - 1;
            range("from(heads, 0) of " + many, 0, many == 0 ? NONE : 0, all, NONE, set -> x.from(set, 0));
            due("from with one that there is not", x.from(1 << many, 0), BAD);
        }
        SaidWoven y = heads(6);
        range("from(0, verse)", 0, 0, 5, 5, v -> y.from(0, v));
        range("from(63, verse)", 0, NONE, 5, NONE, v -> y.from(63, v));
    }

    private static void fromNobody() {
        SaidWoven x = heads(5);
        due("no head has verse 5", x.from(0, 5), NONE);
        due("the only one is gone", x.from(16, 4), NONE);
        due("the only one is there", x.from(15, 4), 4);
        x.alive(4, false);
        due("the only one is not alive", x.from(0, 4), NONE);
    }

    private static void fromTheLowestAndTheHighest() {
        SaidWoven x = laid(FOUR);
        for (int h = 0; h < 16; h++) {
            x.head(0, -1, 3);
        }
        int gone = 0;
        for (int h = 0; h < 16; h++) {
            due("the lowest but " + gone, x.from(gone, 3), h);
            gone |= 1 << h;
        }
        due("all are gone", x.from(gone, 3), NONE);
        for (int h = 0; h < 16; h++) {
            due("the lowest alive", x.from(0, 3), h);
            x.alive(h, false);
        }
        due("nobody is alive", x.from(0, 3), NONE);
    }

    // ---- promise 29

    private static void oddsRange() {
        SaidWoven x = new SaidWoven();
        range("odds(s, 0, 1, 0)", 0, 1, 100, 0, s -> x.odds(s, 0, 1, 0));
        range("odds(s, 0, 1, 1)", 0, 1, 100, 1, s -> x.odds(s, 0, 1, 1));
        range("odds(100, m, 1, 0)", 0, 0, 100, 1, m -> x.odds(100, m, 1, 0));
        range("odds(50, 0, k, 1)", 1, 2, 4, 16, k -> x.odds(50, 0, k, 1));
        range("odds(10, 0, 1, part)", 0, 9, 1, 10, part -> x.odds(10, 0, 1, part));
    }

    private static void oddsNoughtAndOne() {
        SaidWoven x = new SaidWoven();
        for (int k = 1; k <= 4; k++) {
            due("all slip, none mended: above", x.odds(100, 0, k, 0), 0);
            due("all slip, none mended: below", x.odds(100, 0, k, 1), 1);
            due("all slip, all mended: above", x.odds(100, 100, k, 0), 1);
            due("all slip, all mended: below", x.odds(100, 100, k, 1), 1);
            due("none slip: above", x.odds(0, 0, k, 0), 1);
            due("none slip: below", x.odds(0, 100, k, 1), 1);
        }
    }

    private static void oddsAtTheMost() {
        SaidWoven x = new SaidWoven();
        long above = 1;
        long below = 1;
        for (int k = 1; k <= 4; k++) {
            above *= 9999;
            below *= 10000;
            due("odds(1, 99, " + k + ", 0)", x.odds(1, 99, k, 0), above);
            due("odds(1, 99, " + k + ", 1)", x.odds(1, 99, k, 1), below);
        }
        due("more than an int holds", below, 10000000000000000L);
        // 99 of 100 slip, none is mended: 1 by 100
        due("odds(99, 0, 4, 0)", x.odds(99, 0, 4, 0), 1);
        due("odds(99, 0, 4, 1)", x.odds(99, 0, 4, 1), 100000000);
    }

    private static void oddsInLowestTerms() {
        SaidWoven x = new SaidWoven();
        for (int s = 0; s <= 100; s += 4) {
            for (int m = 0; m <= 100; m += 10) {
                SaidWoven y = new SaidWoven();
                long above = y.odds(s, m, 1, 0);
                long below = y.odds(s, m, 1, 1);
                due("the fraction of " + s + ", " + m, above * 10000, below * (10000 - s * (100 - m)));
                for (int d = 2; d <= below; d++) {
                    due("both by " + d, above % d == 0 && below % d == 0 ? 1 : 0, 0);
                }
            }
        }
        due("10000 - 20 * 75 is 8500: 17 by 20", x.odds(20, 25, 1, 0), 17);
        due("17 by 20, four times", x.odds(20, 25, 4, 0), 83521);
        due("17 by 20, four times", x.odds(20, 25, 4, 1), 160000);
    }

    // ---- promise 30

    private static void keepTwoAtMost() {
        SaidWoven x = new SaidWoven();
        due("keep", x.keep(), 1);
        due("keep", x.keep(), 2);
        due("keep a third", x.keep(), FULL);
        due("count(5)", x.count(5), 2);
        due("back", x.back(), 1);
        due("keep", x.keep(), 2);
        due("keep a third", x.keep(), FULL);
        x.lay();
        due("keep after lay", x.keep(), 1);
    }

    private static void keptAsItWas() {
        SaidWoven x = laid(FOUR);
        for (int v = 0; v < 6; v++) {
            verse(x, v, 0, 1, 2, 3, 0, 1, 2, 3);
        }
        x.say(0, 4);
        x.alter(0, 1023);
        x.alter(83, 1023);
        x.keep();
        due("the verses stay", x.count(6), 48);
        due("the saying stays", x.count(2), 84);
        for (int v = 0; v < 6; v++) {
            verse(x, v, 3, 2, 1, 0);
        }
        x.alter(0, 5);
        x.alter(83, 5);
        x.say(1, 1);
        due("back", x.back(), 0);
        for (int v = 0; v < 6; v++) {
            verseIs("as it was", x, v, 0, 1, 2, 3, 0, 1, 2, 3);
        }
        due("count(2)", x.count(2), 84);
        due("two are unlike", x.nearest(5), 2);
        due("its first token", x.alter(0, 0), 1023);
        due("its last token", x.alter(83, 411), 1023);
        due("soundSo", x.soundSo(), 1);
    }

    // ---- promise 31

    private static void backWithNothingKept() {
        SaidWoven x = laid(FOUR);
        verse(x, 0, 1);
        x.say(0, 0);
        due("back", x.back(), NO);
        verseIs("after NO", x, 0, 1);
        due("count(2) after NO", x.count(2), 1);
        x.keep();
        due("back", x.back(), 0);
        due("back again", x.back(), NO);
        x.keep();
        x.lay();
        due("back after lay", x.back(), NO);
    }

    private static void backTheLastFirst() {
        SaidWoven x = laid(FOUR);
        verse(x, 0, 1);
        x.keep();
        verse(x, 0, 2);
        x.keep();
        verse(x, 0, 3);
        due("a third is refused", x.keep(), FULL);
        due("back", x.back(), 1);
        verseIs("the second", x, 0, 2);
        due("back", x.back(), 0);
        verseIs("the first", x, 0, 1);
        due("back", x.back(), NO);
        verseIs("the first yet", x, 0, 1);
    }

    private static void backOfEmptyAndFull() {
        SaidWoven x = laid(FOUR);
        x.keep();
        for (int v = 0; v < 6; v++) {
            verse(x, v, 3, 3, 3, 3, 3, 3, 3, 3);
        }
        x.say(5, 4);
        x.keep();
        for (int v = 0; v < 6; v++) {
            x.clear(v);
        }
        due("back to full verses", x.back(), 1);
        due("count(6)", x.count(6), 48);
        due("count(2)", x.count(2), 84);
        due("add to a full one", x.add(5, 0), FULL);
        due("back to empty verses", x.back(), 0);
        due("count(6)", x.count(6), 0);
        due("count(2)", x.count(2), 0);
        due("soundSo", x.soundSo(), NO);
        due("said", x.said(5, 0, -1), NO);
    }

    // ---- promise 32

    private static void countRange() {
        SaidWoven x = laid("w0,0,0;");
        x.add(0, 0);
        range("count(what)", 0, 1, 6, 1, x::count);
        SaidWoven y = new SaidWoven();
        for (int what = 0; what <= 6; what++) {
            due("count(" + what + ") of a new object", y.count(what), 0);
        }
    }

    private static void countAtTheMost() {
        SaidWoven x = laid(words(16));
        append(x, " ".repeat(188));
        for (int v = 0; v < 6; v++) {
            verse(x, v, 0, 1, 2, 3, 4, 5, 6, 7);
        }
        x.say(0, 4);
        for (int i = 0; i < 20; i++) {
            x.slip(0, 0, 0);
        }
        for (int i = 0; i < 16; i++) {
            x.head(0, -1, 0);
        }
        x.keep();
        x.keep();
        for (int round = 0; round < 2; round++) {
            int[] most = {16, 300, 84, 20, 16, 2, 48};
            for (int what = 0; what <= 6; what++) {
                due("count(" + what + ") at the most", x.count(what), most[what]);
            }
            x.write(1, 0);
            x.add(0, 0);
            x.slip(0, 0, 0);
            x.head(0, -1, 0);
            x.keep();
        }
    }
}
