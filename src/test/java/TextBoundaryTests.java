/**
 * Each sentence about texts and verses (promises 1 to 10) that names a boundary case: the last
 * that is allowed and the first beyond it, the empty and the full, the refused.
 */
public final class TextBoundaryTests extends Checks {
    private static final String[] ITEMS = {"w1,2,3;", "j1,2,3,4;", "h1,2;"};
    /** The highest number that is told at each place of an item: of w, of j, of h. */
    private static final int[][] HIGHEST = {{7, 15, 7}, {7, 7, 7, 7}, {4, 99}};

    public static void main(String[] args) {
        promise = 1;
        emptyTextIsLaidAtFirst(); noSayingAtFirst(); allElseIsEmptyAtFirst(); fiveHundredAndTwelveCalls();
        promise = 2;
        bytesOneToEight(); highestByteFirst(); higherBytesAreLeftAside(); threeHundredBytesAtMost(); noPartOfWhatIsTooLong();
        promise = 3;
        wipeOfEmptyAndFull(); wipeLeavesWhatIsLaid();
        promise = 4;
        noFaultInAnEmptyText(); everyByteAtEveryPlace(); everyNumberAtEveryPlace(); oneOrTwoFigures(); asManyNumbersAsTold();
        partedAsTold(); cutAnywhere(); whatStoodBehindTheEnd(); placeOfTheFirstFault(); faultAtTheLastByte();
        sixteenWordsAtMost(); noTwoWordsAlike(); joiningsAndHoursMayComeAgain();
        promise = 5;
        layingNoWordsAndSixteen(); layingIsRefusedWithAFault(); layingEmptiesAllElse(); layingForgetsJoiningsAndHours(); readingAFaultLaysNothing();
        promise = 6;
        joinedRange(); joinedAtTheCorners(); ofSeveralJoiningsTheLast();
        promise = 7;
        addRange(); addToFull();
        promise = 8;
        clearRange(); clearOfEmptyAndFull();
        promise = 9;
        wordRange(); wordWhereNoneIs();
        promise = 10;
        saidRange(); saidOfAnEmptyVerse(); howManyTokens(); lowestAndHighestToken(); verseOfOneWord();
        end("the boundaries of texts and verses hold");
    }

    private static SaidWoven sixteen() {
        return laid(words(16));
    }

    private static SaidWoven filled(int bytes) {
        SaidWoven x = new SaidWoven();
        append(x, "h0,1;".repeat(60).substring(0, bytes));
        due("bytes written", x.count(1), bytes);
        return x;
    }

    // ---- promise 1

    private static void emptyTextIsLaidAtFirst() {
        SaidWoven x = new SaidWoven();
        due("no words", x.count(0), 0);
        due("no bytes", x.count(1), 0);
        due("no fault", x.fault(), NONE);
        for (int l = 0; l < 8; l++) {
            for (int f = 0; f < 8; f++) {
                due("joined(" + l + ", " + f + ") at first", x.joined(l, f), 8 * l + f);
            }
        }
        due("add(0, 0) without words", x.add(0, 0), BAD);
        due("slip(0, 0, 0) without words", x.slip(0, 0, 0), BAD);
        due("learnt(0, 0, 0) without words", x.learnt(0, 0, 0), BAD);
        due("since(0, 0) without words", x.since(0, 0), BAD);
        due("lay", x.lay(), 0);
        due("wipe", x.wipe(), 0);
    }

    private static void noSayingAtFirst() {
        SaidWoven x = new SaidWoven();
        due("count(2)", x.count(2), 0);
        due("alter(0, 0)", x.alter(0, 0), BAD);
        due("soundSo", x.soundSo(), NO);
        due("nearest(0)", x.nearest(0), NO);
        due("rivals", x.rivals(), NO);
    }

    private static void allElseIsEmptyAtFirst() {
        SaidWoven x = new SaidWoven();
        for (int v = 0; v < 6; v++) {
            verseIs("at first", x, v);
            due("said(" + v + ", 0, -1)", x.said(v, 0, -1), NO);
            due("say(" + v + ", 0)", x.say(v, 0), NO);
            due("far(" + v + ", 31, 0)", x.far(v, 31, 0), NO);
            due("best(" + v + ", 495, 0)", x.best(v, 495, 0), NO);
            due("from(0, " + v + ")", x.from(0, v), NONE);
            due("clear(" + v + ")", x.clear(v), 0);
        }
        for (int what = 0; what <= 6; what++) {
            due("count(" + what + ")", x.count(what), 0);
        }
        due("noSlips", x.noSlips(), 0);
        due("alive(0, true)", x.alive(0, true), BAD);
        due("lost(0)", x.lost(0), 0);
        due("lost(1)", x.lost(1), BAD);
        due("back", x.back(), NO);
    }

    private static void fiveHundredAndTwelveCalls() {
        SaidWoven x = new SaidWoven();
        for (int i = 0; i < 510; i++) {
            due("call " + (i + 1), i % 2 == 0 ? x.write(8, 0) : x.wipe(), 8);
        }
        due("call 511", x.write(7, bytes("w7,7,7;")), 7);
        due("call 512", x.lay(), 1);
    }

    // ---- promise 2

    private static void bytesOneToEight() {
        range("write(n, 0)", 1, 1, 8, 8, n -> new SaidWoven().write(n, 0));
        for (int n = 1; n <= 8; n++) {
            SaidWoven x = new SaidWoven();
            due("write(" + n + ") once", x.write(n, -1L), n);
            due("write(" + n + ") twice", x.write(n, -1L), 2 * n);
            due("count(1)", x.count(1), 2 * n);
        }
    }

    private static void highestByteFirst() {
        String text = "w7,15,6;";
        for (int n = 1; n <= 8; n++) {
            SaidWoven x = new SaidWoven();
            for (int at = 0; at < 8; at += n) {
                int end = Math.min(8, at + n);
                due("write", x.write(end - at, bytes(text.substring(at, end))), end);
            }
            due("lay of pieces of " + n, x.lay(), 1);
            x.add(0, 0);
            due("the word of pieces of " + n, x.said(0, 1, 0), 128 * 7 + 8 * 15 + 6);
        }
        SaidWoven x = new SaidWoven();
        x.write(8, bytes(";6,51,7w"));
        due("the lowest byte first would be a word", x.fault(), 0);
        SaidWoven y = new SaidWoven();
        y.write(8, bytes("w7,15,6;") | Long.MIN_VALUE);
        due("a highest byte above 127", y.fault(), 0);
    }

    private static void higherBytesAreLeftAside() {
        String text = "w7,5,6;";
        for (int n = 1; n <= 7; n++) {
            SaidWoven x = new SaidWoven();
            for (int at = 0; at < 7; at += n) {
                int end = Math.min(7, at + n);
                x.write(end - at, bytes(text.substring(at, end)) | -1L << 8 * (end - at));
            }
            due("lay of pieces of " + n + " with more above", x.lay(), 1);
        }
    }

    private static void threeHundredBytesAtMost() {
        for (int n = 1; n <= 8; n++) {
            SaidWoven x = filled(300 - n);
            due("write(" + n + ") at " + (300 - n), x.write(n, 0), 300);
            due("write(" + n + ") at 300", x.write(n, 0), FULL);
            due("count(1)", x.count(1), 300);
            SaidWoven y = filled(301 - n);
            due("write(" + n + ") at " + (301 - n), y.write(n, 0), FULL);
            due("count(1)", y.count(1), 301 - n);
            due("wipe", y.wipe(), 301 - n);
            due("write(" + n + ") after it", y.write(n, 0), n);
        }
        range("write(n, 0) at 300", 1, FULL, 8, FULL, n -> filled(300).write(n, 0));
    }

    private static void noPartOfWhatIsTooLong() {
        SaidWoven x = filled(298);
        due("at 298 h0, is begun", x.fault(), 295);
        due("write(3) at 298", x.write(3, bytes("1;h")), FULL);
        due("fault", x.fault(), 295);
        due("write(2) at 298", x.write(2, bytes("1;")), 300);
        due("fault", x.fault(), NONE);
    }

    // ---- promise 3

    private static void wipeOfEmptyAndFull() {
        SaidWoven x = new SaidWoven();
        due("wipe of empty", x.wipe(), 0);
        x.write(1, 'w');
        due("wipe of one byte", x.wipe(), 1);
        due("wipe again", x.wipe(), 0);
        SaidWoven y = filled(300);
        due("wipe of 300", y.wipe(), 300);
        due("count(1)", y.count(1), 0);
        due("fault", y.fault(), NONE);
        due("write", y.write(8, 0), 8);
    }

    private static void wipeLeavesWhatIsLaid() {
        SaidWoven x = laid(HIDING + "h3,7;");
        verse(x, 2, 0, 1);
        x.say(2, 0);
        x.slip(2, 0, 2);
        x.head(3, -1, 2);
        x.keep();
        due("wipe", x.wipe(), 44);
        int[] counts = {3, 0, 2, 1, 1, 1, 2};
        for (int what = 0; what <= 6; what++) {
            due("count(" + what + ") after wipe", x.count(what), counts[what]);
        }
        due("joined(2, 3) after wipe", x.joined(2, 3), 62);
        due("lay of what is empty", x.lay(), 0);
        due("joined(2, 3) after that", x.joined(2, 3), 19);
    }

    // ---- promise 4

    private static void noFaultInAnEmptyText() {
        due("fault of a new object", new SaidWoven().fault(), NONE);
        SaidWoven x = new SaidWoven();
        x.write(1, 0);
        due("fault of a byte 0", x.fault(), 0);
        x.wipe();
        due("fault after wipe", x.fault(), NONE);
    }

    /** All 256 bytes at each place of each item, and once more behind another item. */
    private static void everyByteAtEveryPlace() {
        for (int kind = 0; kind < 3; kind++) {
            String item = ITEMS[kind];
            int number = 0;
            for (int at = 0; at < item.length(); at++) {
                boolean isNumber = at % 2 == 1;
                for (int b = 0; b < 256; b++) {
                    boolean isSo = isNumber
                        ? b >= '0' && b <= '0' + Math.min(9, HIGHEST[kind][number])
                        : b == item.charAt(at);
                    String text = item.substring(0, at) + (char) b + item.substring(at + 1);
                    faultIs(text, isSo ? NONE : 0);
                    if (at == 0) {
                        faultIs("h0,1;" + text, isSo ? NONE : 5);
                    }
                }
                number += isNumber ? 1 : 0;
            }
        }
    }

    private static String itemWith(int kind, int place, String number) {
        StringBuilder item = new StringBuilder().append(ITEMS[kind].charAt(0));
        for (int i = 0; i < HIGHEST[kind].length; i++) {
            item.append(i == 0 ? "" : ",").append(i == place ? number : "0");
        }
        return item.append(";").toString();
    }

    private static void everyNumberAtEveryPlace() {
        for (int kind = 0; kind < 3; kind++) {
            for (int place = 0; place < HIGHEST[kind].length; place++) {
                for (int n = 0; n < 100; n++) {
                    int want = n <= HIGHEST[kind][place] ? NONE : 0;
                    faultIs(itemWith(kind, place, String.valueOf(n)), want);
                    faultIs(itemWith(kind, place, n / 10 + "" + n % 10), want);
                }
            }
        }
    }

    private static void oneOrTwoFigures() {
        String[] none = {"", "000", "001", "010", "100", "-1", "-0", "+1", " 1", "1 ", "a", "0x", "1.", "/", ":"};
        for (int kind = 0; kind < 3; kind++) {
            for (int place = 0; place < HIGHEST[kind].length; place++) {
                for (String number : none) {
                    faultIs(itemWith(kind, place, number), 0);
                }
            }
        }
    }

    private static void asManyNumbersAsTold() {
        for (int kind = 0; kind < 3; kind++) {
            char letter = ITEMS[kind].charAt(0);
            for (int many = 0; many <= 6; many++) {
                String numbers = "0,".repeat(many);
                String text = letter + numbers.substring(0, Math.max(0, numbers.length() - 1)) + ";";
                faultIs(text, many == HIGHEST[kind].length ? NONE : 0);
            }
        }
    }

    private static void partedAsTold() {
        for (String item : ITEMS) {
            for (int at = 2; at < item.length(); at += 2) {
                char other = item.charAt(at) == ';' ? ',' : ';';
                faultIs(item.substring(0, at) + other + item.substring(at + 1), 0);
                faultIs(item.substring(0, at) + item.substring(at + 1), 0);
                faultIs(item.substring(0, at) + item.charAt(at) + item.substring(at), at == item.length() - 1 ? at + 1 : 0);
            }
            faultIs(item + ",", item.length());
            faultIs(item + " " + item, item.length());
            faultIs(" " + item, 0);
        }
    }

    private static void cutAnywhere() {
        for (String item : new String[] {"w7,15,7;", "j7,7,7,7;", "h4,99;"}) {
            for (int length = 0; length <= item.length(); length++) {
                boolean isWhole = length == 0 || length == item.length();
                faultIs(item.substring(0, length), isWhole ? NONE : 0);
                faultIs("h0,1;" + item.substring(0, length), isWhole ? NONE : 5);
            }
        }
    }

    private static void whatStoodBehindTheEnd() {
        for (String item : ITEMS) {
            for (int length = 1; length < item.length(); length++) {
                SaidWoven x = new SaidWoven();
                text(x, item);
                due("fault of " + item, x.fault(), NONE);
                text(x, item.substring(0, length));
                due("fault of " + item + " wiped and cut at " + length, x.fault(), 0);
            }
        }
    }

    private static void placeOfTheFirstFault() {
        faultIs("w8,0,0;", 0);
        faultIs("w0,0,8;w0,0,0;", 0);
        faultIs("w0,0,0;w0,0,8;", 7);
        faultIs("w0,0,0;w0,0,8;w0,0,9;", 7);
        faultIs("w0,0,0;h0,0;x", 12);
        faultIs("w0,0,0;h0,0;j0,0,0,8;w0,0,0;", 12);
        faultIs("w0,0,0;j0,0,0,0;w0,0,0;j0,0,0,8;", 16);
        // the item's first byte, not the byte that is wrong
        faultIs("h0,0;w0,15,99;", 5);
    }

    private static void faultAtTheLastByte() {
        faultIs("h0,1;".repeat(60), NONE);
        String most = "h0,1;".repeat(58) + "j0,0,0,0;";
        faultIs(most, NONE);
        faultIs(most + "w", 299);
        faultIs(most + ";", 299);
        faultIs("h0,1;".repeat(59) + "h0,11", 295);
        faultIs("h0,1;".repeat(59) + "h5,1;", 295);
    }

    private static void sixteenWordsAtMost() {
        faultIs(words(15), NONE);
        faultIs(words(16), NONE);
        faultIs(words(16) + "w2,0,0;", 112);
        faultIs(words(16) + "w0,0,0;", 112);
        faultIs("h0,0;" + words(16) + "j0,0,0,0;w2,0,0;", 126);
        faultIs(words(16) + "j0,0,0,0;h0,0;", NONE);
    }

    private static void noTwoWordsAlike() {
        faultIs("w1,2,3;w1,2,3;", 7);
        faultIs("w1,2,3;w01,02,03;", 7);
        faultIs("w1,2,3;w2,2,3;w1,3,3;w1,2,4;", NONE);
        faultIs("w1,2,3;w3,2,1;", NONE);
        for (int i = 0; i < 15; i++) {
            faultIs(words(15) + words(16).substring(7 * i, 7 * i + 7), 105);
        }
    }

    private static void joiningsAndHoursMayComeAgain() {
        faultIs("j1,2,3,4;j1,2,3,4;", NONE);
        faultIs("j1,2,3,4;j1,2,4,3;", NONE);
        faultIs("h1,2;h1,2;h1,3;", NONE);
        faultIs("j0,0,0,0;".repeat(33), NONE);
    }

    // ---- promise 5

    private static void layingNoWordsAndSixteen() {
        SaidWoven x = new SaidWoven();
        due("lay of an empty text", x.lay(), 0);
        text(x, "j0,0,1,1;h0,0;");
        due("lay without words", x.lay(), 0);
        due("joined(0, 0)", x.joined(0, 0), 9);
        for (int many = 1; many <= 16; many++) {
            text(x, words(many));
            due("lay of " + many, x.lay(), many);
            due("count(0)", x.count(0), many);
        }
        due("the text stays", x.count(1), 112);
        due("lay again", x.lay(), 16);
    }

    private static void layingIsRefusedWithAFault() {
        for (String text : new String[] {"w", "w8,0,0;", "w0,0,0;w0,0,0;", "w0,0,0; ", words(16) + "w7,7,7;"}) {
            SaidWoven x = laid(THREE);
            text(x, text);
            due("lay of " + text, x.lay(), NO);
            due("count(0) after NO", x.count(0), 3);
            due("count(1) after NO", x.count(1), text.length());
        }
    }

    private static void layingEmptiesAllElse() {
        SaidWoven x = laid(THREE);
        for (int v = 0; v < 6; v++) {
            verse(x, v, 0, 1, 2, 0, 1, 2, 0, 1);
        }
        x.say(5, 4);
        for (int i = 0; i < 20; i++) {
            x.slip(0, 0, 1);
        }
        for (int i = 0; i < 16; i++) {
            x.head(i, i - 1, 0);
        }
        x.keep();
        x.keep();
        int[] before = {3, 21, 84, 20, 16, 2, 48};
        int[] after = {3, 21, 0, 0, 0, 0, 0};
        for (int what = 0; what <= 6; what++) {
            due("count(" + what + ") before", x.count(what), before[what]);
        }
        due("lay", x.lay(), 3);
        for (int what = 0; what <= 6; what++) {
            due("count(" + what + ") after", x.count(what), after[what]);
        }
        for (int v = 0; v < 6; v++) {
            verseIs("after lay", x, v);
        }
        due("soundSo", x.soundSo(), NO);
        due("nearest", x.nearest(0), NO);
        due("rivals", x.rivals(), NO);
        due("alter", x.alter(0, 0), BAD);
        due("slips(3)", x.slips(3), 0);
        due("alive", x.alive(0, true), BAD);
        due("back", x.back(), NO);
        due("the first slip again", x.slip(0, 0, 0), 1);
        due("the first head again", x.head(0, -1, 0), 0);
        due("the first kept again", x.keep(), 1);
        due("the first word again", x.add(5, 0), 1);
    }

    private static void layingForgetsJoiningsAndHours() {
        SaidWoven x = laid(FOUR + "j0,0,7,7;h0,99;h1,99;h2,99;h3,99;h4,99;");
        verse(x, 0, 0);
        due("too dear", x.best(0, 98, 0), 0);
        due("joined(0, 0)", x.joined(0, 0), 63);
        text(x, FOUR);
        due("before it is laid", x.joined(0, 0), 63);
        due("before it is laid", x.best(0, 98, 0), 0);
        x.lay();
        verse(x, 0, 0);
        due("one hour each", x.best(0, 4, 0), 15);
        due("one hour each", x.best(0, 5, 0), 31);
        due("joined(0, 0) as it is", x.joined(0, 0), 0);
        text(x, FOUR + "j7,7,0,0;");
        x.lay();
        due("joined(0, 0) two texts later", x.joined(0, 0), 0);
        due("joined(7, 7) two texts later", x.joined(7, 7), 0);
        verse(x, 0, 0);
        due("one hour each two texts later", x.best(0, 5, 0), 31);
    }

    private static void readingAFaultLaysNothing() {
        for (int rounds = 1; rounds <= 3; rounds++) {
            SaidWoven x = laid(FOUR);
            for (int round = 0; round < rounds; round++) {
                text(x, "w7,7,7;j0,0,7,7;j7,7,0,0;h0,99;h4,0;w7,7,7;");
                due("fault", x.fault(), 36);
                due("joined(0, 0) after fault", x.joined(0, 0), 0);
                due("lay", x.lay(), NO);
                due("joined(7, 7) after NO", x.joined(7, 7), 63);
                text(x, FOUR);
                due("lay", x.lay(), 4);
                due("joined(0, 0) after lay", x.joined(0, 0), 0);
                due("joined(7, 7) after lay", x.joined(7, 7), 63);
                x.add(0, 0);
                due("no word is left of the fault's text", x.said(0, 1, 0), 0);
                due("no way takes no hours", x.best(0, 0, 0), 0);
                due("no way takes two hours", x.best(0, 5, 0), 31);
            }
        }
    }

    // ---- promise 6

    private static void joinedRange() {
        SaidWoven x = new SaidWoven();
        range("joined(l, 0)", 0, 0, 7, 56, l -> x.joined(l, 0));
        range("joined(l, 7)", 0, 7, 7, 63, l -> x.joined(l, 7));
        range("joined(0, f)", 0, 0, 7, 7, f -> x.joined(0, f));
        range("joined(7, f)", 0, 56, 7, 63, f -> x.joined(7, f));
    }

    private static void joinedAtTheCorners() {
        SaidWoven x = laid("j0,0,7,7;j7,7,0,0;j0,7,7,0;j7,0,0,7;");
        for (int l = 0; l < 8; l++) {
            for (int f = 0; f < 8; f++) {
                boolean isCorner = l % 7 == 0 && f % 7 == 0;
                due("joined(" + l + ", " + f + ")", x.joined(l, f), isCorner ? 8 * (7 - l) + 7 - f : 8 * l + f);
            }
        }
    }

    private static void ofSeveralJoiningsTheLast() {
        SaidWoven x = laid("j1,2,3,4;j2,1,6,6;j1,2,5,6;j1,2,7,0;");
        due("joined(1, 2)", x.joined(1, 2), 56);
        due("joined(2, 1)", x.joined(2, 1), 54);
        due("joined(1, 1)", x.joined(1, 1), 9);
        due("joined(3, 4): what was made is not made again", x.joined(3, 4), 28);
    }

    // ---- promise 7

    private static void addRange() {
        range("add(verse, 0)", 0, 1, 5, 1, v -> sixteen().add(v, 0));
        for (int many = 1; many <= 16; many++) {
            SaidWoven x = laid(words(many));
            range("add(0, word) of " + many, 0, 1, many - 1, 2, w -> x.add(0, w));
            verseIs("after those that were BAD", x, 0, 0, many - 1);
        }
    }

    private static void addToFull() {
        SaidWoven x = sixteen();
        for (int v = 0; v < 6; v++) {
            for (int i = 1; i <= 8; i++) {
                due("add " + i + " to " + v, x.add(v, 2 * i - 1), i);
            }
            due("add a ninth to " + v, x.add(v, 0), FULL);
            due("count(6)", x.count(6), 8 * v + 8);
        }
        for (int v = 0; v < 6; v++) {
            verseIs("after FULL", x, v, 1, 3, 5, 7, 9, 11, 13, 15);
        }
        range("add(verse, 0) to full", 0, FULL, 5, FULL, v -> x.add(v, 0));
        range("add(0, word) to full", 0, FULL, 15, FULL, w -> x.add(0, w));
    }

    // ---- promise 8

    private static void clearRange() {
        SaidWoven x = sixteen();
        x.add(0, 0);
        verse(x, 5, 1, 2);
        range("clear(verse)", 0, 1, 5, 2, x::clear);
        due("count(6)", x.count(6), 0);
    }

    private static void clearOfEmptyAndFull() {
        SaidWoven x = sixteen();
        for (int v = 0; v < 6; v++) {
            verse(x, v, 0, 1, 2, 3, 4, 5, 6, 7);
        }
        for (int v = 0; v < 6; v++) {
            due("clear(" + v + ") of eight", x.clear(v), 8);
            due("clear(" + v + ") of none", x.clear(v), 0);
            due("count(6)", x.count(6), 40 - 8 * v);
            verseIs("after clear", x, v);
        }
        for (int i = 1; i <= 8; i++) {
            due("add after clear", x.add(3, 15), i);
        }
        due("add a ninth after clear", x.add(3, 15), FULL);
    }

    // ---- promise 9

    private static void wordRange() {
        SaidWoven x = sixteen();
        for (int v = 0; v < 6; v++) {
            verse(x, v, 15, v, 0, 0, 0, 0, 0, 8 + v);
        }
        range("word(verse, 0)", 0, 15, 5, 15, v -> x.word(v, 0));
        range("word(verse, 7)", 0, 8, 5, 13, v -> x.word(v, 7));
        range("word(5, place)", 0, 15, 7, 13, p -> x.word(5, p));
    }

    private static void wordWhereNoneIs() {
        SaidWoven x = sixteen();
        range("word(0, place) of an empty verse", 0, NONE, 7, NONE, p -> x.word(0, p));
        range("word(verse, 0) of empty verses", 0, NONE, 5, NONE, v -> x.word(v, 0));
        for (int size = 1; size <= 8; size++) {
            x.add(0, size);
            for (int p = 0; p < 8; p++) {
                due("word(0, " + p + ") of " + size, x.word(0, p), p < size ? p + 1 : NONE);
            }
        }
        x.clear(0);
        range("word(0, place) of a cleared verse", 0, NONE, 7, NONE, p -> x.word(0, p));
    }

    // ---- promise 10

    private static void saidRange() {
        SaidWoven x = sixteen();
        for (int v = 0; v < 6; v++) {
            verse(x, v, v, 8);
        }
        range("said(verse, 1, 0)", 0, 0, 5, 5, v -> x.said(v, 1, 0));
        range("said(verse, 1, -1)", 0, 2, 5, 2, v -> x.said(v, 1, -1));
        range("said(0, way, -1)", 0, 2, 4, 6, w -> x.said(0, w, -1));
        range("said(0, way, 1)", 0, 128, 4, 128, w -> x.said(0, w, 1));
        for (int way = 0; way < 5; way++) {
            int many = way < 3 ? 2 : 6;
            due("said(0, " + way + ", LOW)", x.said(0, way, LOW), BAD);
            due("said(0, " + way + ", -2)", x.said(0, way, -2), BAD);
            due("said(0, " + way + ", -1)", x.said(0, way, -1), many);
            due("said(0, " + way + ", 0)", x.said(0, way, 0), 0);
            due("said(0, " + way + ", last)", x.said(0, way, many - 1), 128);
            due("said(0, " + way + ", one more)", x.said(0, way, many), NONE);
            due("said(0, " + way + ", HIGH)", x.said(0, way, HIGH), NONE);
        }
    }

    private static void saidOfAnEmptyVerse() {
        SaidWoven x = sixteen();
        range("said(verse, 0, -1) of empty verses", 0, NO, 5, NO, v -> x.said(v, 0, -1));
        range("said(0, way, 0) of an empty verse", 0, NO, 4, NO, w -> x.said(0, w, 0));
        due("said(0, 0, 84) of an empty verse", x.said(0, 0, 84), NO);
        due("said(0, 0, -2) of an empty verse", x.said(0, 0, -2), BAD);
        x.add(0, 0);
        due("of one word", x.said(0, 0, -1), 1);
        x.clear(0);
        due("of a cleared verse", x.said(0, 0, -1), NO);
    }

    private static void howManyTokens() {
        SaidWoven x = sixteen();
        for (int n = 1; n <= 8; n++) {
            x.add(0, n);
            int[] many = {n, n, 2 * n - 2, 6 * n - 6, 13 * n - 20};
            for (int way = 0; way < 5; way++) {
                int due = n == 1 ? 1 : many[way];
                due("tokens of " + n + " by " + way, x.said(0, way, -1), due);
                due("the first of " + n + " by " + way, x.said(0, way, 0), 1);
                due("the last of " + n + " by " + way, x.said(0, way, due - 1), n == 8 ? 128 : n);
                due("one more of " + n + " by " + way, x.said(0, way, due), NONE);
            }
        }
    }

    private static void lowestAndHighestToken() {
        SaidWoven x = laid("w0,0,0;w7,15,7;");
        verse(x, 0, 0);
        verse(x, 1, 1);
        verse(x, 2, 0, 1);
        for (int way = 0; way < 5; way++) {
            due("the lowest by " + way, x.said(0, way, 0), 0);
            due("the highest by " + way, x.said(1, way, 0), 1023);
            due("the last by " + way, x.said(2, way, way < 3 ? 1 : 5), 1023);
        }
        SaidWoven y = laid("w0,0,0;w7,15,7;j7,0,0,7;j0,7,7,0;");
        verse(y, 0, 0, 1, 0);
        saidIs(y, 0, 0, 7, 120, 896);
        saidIs(y, 0, 1, 0, 1023, 0);
        saidIs(y, 0, 2, 7, 127, 1016, 896);
    }

    private static void verseOfOneWord() {
        // the word is joined to none, not to itself
        SaidWoven x = laid("w1,2,3;j3,1,7,7;");
        verse(x, 0, 0);
        for (int way = 0; way < 5; way++) {
            saidIs(x, 0, way, 147);
        }
        x.add(0, 0);
        saidIs(x, 0, 0, 151, 915);
        saidIs(x, 0, 1, 147, 147);
        saidIs(x, 0, 2, 151, 915);
        saidIs(x, 0, 3, 151, 919, 919, 919, 919, 915);
        saidIs(x, 0, 4, 151, 919, 919, 919, 919, 915);
    }
}
