/**
 * The promises of the document one by one: ordinary inputs, the edges it names, wrong inputs.
 * The numbers that are due were worked out by hand from the document.
 */
public final class PromiseTests extends Checks {
    public static void main(String[] args) {
        promise = 1; aNewObject();
        promise = 2; write();
        promise = 3; wipe();
        promise = 4; faultOfItems(); faultOfWords(); faultOfJoinings(); faultOfHours(); faultAtTheEnd();
        promise = 5; lay();
        promise = 6; joined();
        promise = 7; add();
        promise = 8; clear();
        promise = 9; word();
        promise = 10; said(); saidByPlaces(); saidByJoinings();
        promise = 11; say();
        promise = 12; alter();
        promise = 13; soundSo();
        promise = 14; nearest();
        promise = 15; rivals();
        promise = 16; far();
        promise = 17; best();
        promise = 18; learnt();
        promise = 19; slip();
        promise = 20; noSlips();
        promise = 21; slips();
        promise = 22; list();
        promise = 23; head();
        promise = 24; alive();
        promise = 25; same();
        promise = 26; since();
        promise = 27; lost();
        promise = 28; from();
        promise = 29; odds();
        promise = 30; keep();
        promise = 31; back();
        promise = 32; count();
        end("all promises hold");
    }

    // ---- texts, verses

    private static void aNewObject() {
        SaidWoven x = new SaidWoven();
        for (int what = 0; what <= 6; what++) {
            due("count(" + what + ") of a new object", x.count(what), 0);
        }
        for (int l = 0; l < 8; l++) {
            for (int f = 0; f < 8; f++) {
                due("joined of a new object", x.joined(l, f), 8 * l + f);
            }
        }
        due("fault of an empty text", x.fault(), NONE);
        due("soundSo without a saying", x.soundSo(), NO);
        due("nearest without a saying", x.nearest(0), NO);
        due("rivals without a saying", x.rivals(), NO);
        due("add without words", x.add(0, 0), BAD);
        due("back with nothing kept", x.back(), NO);
        SaidWoven y = new SaidWoven();
        y.write(1, 'w');
        due("another object's text", x.count(1), 0);
    }

    private static void write() {
        SaidWoven x = new SaidWoven();
        due("write(0, 0)", x.write(0, 0), BAD);
        due("write(9, 0)", x.write(9, 0), BAD);
        due("write(-1, 0)", x.write(-1, 0), BAD);
        due("write(LOW, 0)", x.write(LOW, 0), BAD);
        due("write(HIGH, 0)", x.write(HIGH, 0), BAD);
        due("count(1)", x.count(1), 0);
        // "w7,15,0;" is 8 bytes: the highest first
        due("write(8, ..)", x.write(8, 0x77372c31352c303bL), 8);
        due("fault", x.fault(), NONE);
        // only the lowest byte of these is taken
        due("write(1, ..)", x.write(1, 0x7777777777777777L), 9);
        due("write(1, ..)", x.write(1, 0xffffffffffffff30L), 10);
        due("write(5, ..)", x.write(5, 0xabcdef2c302c303bL), 15);
        due("fault", x.fault(), NONE);
        due("lay", x.lay(), 2);
        x.wipe();
        for (int i = 1; i <= 37; i++) {
            due("write(8) again", x.write(8, -1L), 8 * i);
        }
        due("write(5) at 296", x.write(5, 0), FULL);
        due("write(8) at 296", x.write(8, 0), FULL);
        due("write(9) at 296", x.write(9, 0), BAD);
        due("count(1)", x.count(1), 296);
        due("write(4) at 296", x.write(4, 0), 300);
        due("write(1) at 300", x.write(1, 0), FULL);
        due("write(0) at 300", x.write(0, 0), BAD);
        due("count(1)", x.count(1), 300);
    }

    private static void wipe() {
        SaidWoven x = laid(THREE);
        verse(x, 0, 1);
        due("wipe", x.wipe(), 21);
        due("wipe again", x.wipe(), 0);
        due("count(1)", x.count(1), 0);
        due("words stay laid", x.count(0), 3);
        due("verses stay", x.word(0, 0), 1);
        due("fault", x.fault(), NONE);
        due("write after it", x.write(1, 'w'), 1);
    }

    private static void faultOfItems() {
        faultIs("", NONE);
        faultIs(";", 0);
        faultIs(" ", 0);
        faultIs("W0,0,0;", 0);
        faultIs("x0,0,0;", 0);
        faultIs("0,0,0;", 0);
        faultIs("w0,0,0; w0,0,1;", 7);
        faultIs("w0,0,0;;", 7);
        faultIs("w0,0,0", 0);
        faultIs("w0,0,0;w0,0,1", 7);
        faultIs("w0,0,0;w", 7);
        faultIs("w0,0,0;w8,0,0;x", 7);
        faultIs("w0,0;", 0);
        faultIs("w0,0,0,0;", 0);
        faultIs("w0,0,0,", 0);
        faultIs("w0;0;0;", 0);
        faultIs("w,0,0;", 0);
        faultIs("w0,,0;", 0);
        faultIs("w0,0,;", 0);
        faultIs("w-1,0,0;", 0);
        faultIs("w07,09,00;", NONE);
        faultIs("w007,9,0;", 0);
        faultIs("w0,015,0;", 0);
        faultIs("w0,0,0;\u00f7", 7);
        faultIs("w/,0,0;", 0);
        faultIs("w:,0,0;", 0);
    }

    private static void faultOfWords() {
        faultIs("w7,15,7;", NONE);
        faultIs("w8,0,0;", 0);
        faultIs("w0,16,0;", 0);
        faultIs("w0,0,8;", 0);
        faultIs("w0,99,0;", 0);
        faultIs("w10,0,0;", 0);
        faultIs("w0,0,10;", 0);
        faultIs("w1,2,3;w1,2,3;", 7);
        faultIs("w1,2,3;j0,0,0,0;w01,02,03;", 16);
        faultIs("w1,2,3;w1,2,4;w1,3,3;w2,2,3;", NONE);
        StringBuilder many = new StringBuilder();
        for (int i = 0; i < 16; i++) {
            many.append("w").append(i / 8).append(",0,").append(i % 8).append(";");
        }
        faultIs(many.toString(), NONE);
        faultIs(many + "w7,7,7;", 112);
        faultIs(many + "h0,0;w7,7,7;", 117);
        faultIs(many + "h0,0;j0,0,0,0;", NONE);
    }

    private static void faultOfJoinings() {
        faultIs("j0,7,7,0;", NONE);
        faultIs("j8,0,0,0;", 0);
        faultIs("j0,8,0,0;", 0);
        faultIs("j0,0,8,0;", 0);
        faultIs("j0,0,0,8;", 0);
        faultIs("j0,0,0;", 0);
        faultIs("j0,0,0,0,0;", 0);
        faultIs("j0,0,1,1;j0,0,1,1;j0,0,2,2;", NONE);
    }

    private static void faultOfHours() {
        faultIs("h0,0;h4,99;", NONE);
        faultIs("h5,0;", 0);
        faultIs("h0,100;", 0);
        faultIs("h0;", 0);
        faultIs("h0,0,0;", 0);
        faultIs("h0,1;h0,1;", NONE);
        faultIs("h0,1;h9,1;", 5);
    }

    private static void faultAtTheEnd() {
        String many = "h0,1;".repeat(59);
        faultIs(many + "h0,1;", NONE);
        faultIs(many + "h0,11", 295);
        faultIs(many + "hhh0,", 295);
        // what stood behind the end in an earlier text counts no more
        SaidWoven x = new SaidWoven();
        text(x, "w1,2,3;");
        text(x, "w1,2,3");
        due("fault of a text cut short", x.fault(), 0);
        text(x, "w1,2,");
        due("fault of a text cut shorter", x.fault(), 0);
        text(x, "w1,2");
        due("fault of a text cut shorter yet", x.fault(), 0);
    }

    private static void lay() {
        SaidWoven x = laid(HIDING + "h1,7;");
        verse(x, 0, 0, 1);
        verse(x, 5, 2);
        x.say(0, 0);
        x.slip(0, 0, 2);
        x.head(10, -1, 0);
        x.keep();
        text(x, "w0,0,0;w0,0,0;");
        due("lay with a fault", x.lay(), NO);
        due("words after NO", x.count(0), 3);
        due("text after NO", x.count(1), 14);
        due("saying after NO", x.count(2), 2);
        due("slips after NO", x.count(3), 1);
        due("heads after NO", x.count(4), 1);
        due("kept after NO", x.count(5), 1);
        due("verses after NO", x.count(6), 3);
        due("joined after NO", x.joined(2, 3), 62);
        due("said after NO", x.said(0, 0, 0), 15);
        text(x, "w0,0,0;w0,0,1;");
        due("joined before lay", x.joined(2, 3), 62);
        due("lay", x.lay(), 2);
        due("words", x.count(0), 2);
        due("the text stays", x.count(1), 14);
        for (int what = 2; what <= 6; what++) {
            due("count(" + what + ") after lay", x.count(what), 0);
        }
        due("joined is as at first", x.joined(2, 3), 19);
        due("soundSo", x.soundSo(), NO);
        due("alter", x.alter(0, 0), BAD);
        due("back", x.back(), NO);
        due("lay again", x.lay(), 2);
        verse(x, 0, 0, 1);
        due("hours are as at first (two words: braided and dense are one)", x.best(0, 1, 0), 8);
        x.wipe();
        due("lay of an empty text", x.lay(), 0);
        due("add without words", x.add(0, 0), BAD);
    }

    private static void joined() {
        SaidWoven x = laid("j2,3,7,6;j0,0,1,2;j7,7,0,0;j0,0,3,4;");
        due("joined(2, 3)", x.joined(2, 3), 62);
        due("joined(3, 2)", x.joined(3, 2), 26);
        due("joined(0, 0): the last one", x.joined(0, 0), 28);
        due("joined(7, 7)", x.joined(7, 7), 0);
        due("joined(7, 0)", x.joined(7, 0), 56);
        due("joined(0, 7)", x.joined(0, 7), 7);
        text(x, "j7,7,1,1;");
        x.lay();
        due("joined(0, 0) without its item", x.joined(0, 0), 0);
        due("joined(2, 3) without its item", x.joined(2, 3), 19);
        due("joined(7, 7) with another item", x.joined(7, 7), 9);
        due("joined(8, 0)", x.joined(8, 0), BAD);
        due("joined(0, 8)", x.joined(0, 8), BAD);
        due("joined(-1, 0)", x.joined(-1, 0), BAD);
        due("joined(0, -1)", x.joined(0, -1), BAD);
        due("joined(HIGH, LOW)", x.joined(HIGH, LOW), BAD);
    }

    private static void add() {
        SaidWoven x = laid(THREE);
        for (int i = 1; i <= 8; i++) {
            due("add", x.add(5, i % 3), i);
        }
        due("add a ninth", x.add(5, 0), FULL);
        due("add a ninth that is none", x.add(5, 3), BAD);
        verseIs("after FULL", x, 5, 1, 2, 0, 1, 2, 0, 1, 2);
        due("add(0, 2)", x.add(0, 2), 1);
        due("add(0, 3)", x.add(0, 3), BAD);
        due("add(0, -1)", x.add(0, -1), BAD);
        due("add(6, 0)", x.add(6, 0), BAD);
        due("add(-1, 0)", x.add(-1, 0), BAD);
        due("add(LOW, HIGH)", x.add(LOW, HIGH), BAD);
        verseIs("after BAD", x, 0, 2);
    }

    private static void clear() {
        SaidWoven x = laid(THREE);
        verse(x, 0, 0, 1);
        verse(x, 5, 2);
        due("clear(0)", x.clear(0), 2);
        due("clear(0) again", x.clear(0), 0);
        verseIs("after clear", x, 0);
        verseIs("another verse", x, 5, 2);
        due("clear(-1)", x.clear(-1), BAD);
        due("clear(6)", x.clear(6), BAD);
        due("add after clear", x.add(0, 1), 1);
        verseIs("after add", x, 0, 1);
    }

    private static void word() {
        SaidWoven x = laid(THREE);
        verse(x, 0, 2, 1, 0);
        due("word(0, 0)", x.word(0, 0), 2);
        due("word(0, 1)", x.word(0, 1), 1);
        due("word(0, 2)", x.word(0, 2), 0);
        due("word(0, 3)", x.word(0, 3), NONE);
        due("word(0, 7)", x.word(0, 7), NONE);
        due("word(0, 8)", x.word(0, 8), BAD);
        due("word(0, -1)", x.word(0, -1), BAD);
        due("word(6, 0)", x.word(6, 0), BAD);
        due("word(-1, 0)", x.word(-1, 0), BAD);
        due("word(1, 0)", x.word(1, 0), NONE);
        due("word(LOW, LOW)", x.word(LOW, LOW), BAD);
    }

    private static void said() {
        SaidWoven x = laid(FOUR);
        verse(x, 0, 0, 1);
        due("said(1, 0, -1) of an empty verse", x.said(1, 0, -1), NO);
        due("said(1, 0, 0) of an empty verse", x.said(1, 0, 0), NO);
        due("said(1, 5, 0) of an empty verse", x.said(1, 5, 0), BAD);
        due("said(0, 5, 0)", x.said(0, 5, 0), BAD);
        due("said(0, -1, 0)", x.said(0, -1, 0), BAD);
        due("said(6, 0, 0)", x.said(6, 0, 0), BAD);
        due("said(-1, 0, 0)", x.said(-1, 0, 0), BAD);
        due("said(0, 0, -2)", x.said(0, 0, -2), BAD);
        due("said(0, 0, LOW)", x.said(0, 0, LOW), BAD);
        due("said(0, 0, HIGH)", x.said(0, 0, HIGH), NONE);
        verse(x, 0, 0, 1, 2, 3, 0, 1, 2, 3);
        int[] lengths = {8, 8, 14, 42, 84};
        for (int way = 0; way < 5; way++) {
            due("tokens of eight words by " + way, x.said(0, way, -1), lengths[way]);
            due("the last one by " + way, x.said(0, way, lengths[way] - 1), 411);
            due("one more by " + way, x.said(0, way, lengths[way]), NONE);
        }
    }

    private static void saidByPlaces() {
        SaidWoven x = laid(FOUR);
        int a = 0, b = 137, c = 274, d = 411;
        verse(x, 0, 3);
        for (int way = 0; way < 5; way++) {
            saidIs(x, 0, way, d);
        }
        verse(x, 0, 0, 1);
        saidIs(x, 0, 0, a, b);
        saidIs(x, 0, 1, a, b);
        saidIs(x, 0, 2, a, b);
        saidIs(x, 0, 3, a, b, b, a, a, b);
        saidIs(x, 0, 4, a, b, b, a, a, b);
        verse(x, 0, 0, 1, 2);
        saidIs(x, 0, 0, a, b, c);
        saidIs(x, 0, 1, a, b, c);
        saidIs(x, 0, 2, a, b, b, c);
        saidIs(x, 0, 3, a, b, b, a, a, b, b, c, c, b, b, c);
        saidIs(x, 0, 4, a, b, b, a, a, b, c, c, b, a, a, b, c, b, c, c, b, b, c);
        verse(x, 0, 0, 1, 2, 3);
        saidIs(x, 0, 2, a, b, b, c, c, d);
        saidIs(x, 0, 4, a, b, b, a, a, b, c, c, b, a, a, b, c, b, c, c, b, b, c, d, d, c, b, b, c, d, c, d, d, c, c, d);
    }

    private static void saidByJoinings() {
        // a = 1,2,3 and b = 4,5,6; every joining among them changes both edges
        SaidWoven x = laid("w1,2,3;w4,5,6;j3,4,0,7;j6,1,2,0;j3,1,5,6;j6,4,7,3;");
        verse(x, 0, 0, 1);
        // a b: a's last is 0, b's first is 7
        saidIs(x, 0, 0, 144, 942);
        saidIs(x, 0, 1, 147, 558);
        saidIs(x, 0, 2, 144, 942);
        // a b b a a b: ab 0 7, bb 7 3, ba 2 0, aa 5 6, ab 0 7
        saidIs(x, 0, 3, 144, 943, 426, 21, 784, 942);
        verse(x, 1, 1, 0, 0);
        // b a a: ba 2 0, aa 5 6
        saidIs(x, 1, 0, 554, 21, 787);
        // the groups are not joined to one another
        saidIs(x, 1, 2, 554, 19, 149, 787);
        // b a a b b a a a a b b a a, then a a a a a a
        saidIs(x, 1, 4, 554, 21, 784, 943, 426, 21, 789, 789, 784, 943, 426, 21, 787, 149, 789, 789, 789, 789, 787);
        // a joining that makes another joining's edges is not joined again
        SaidWoven y = laid("w1,0,1;j1,1,2,2;j2,2,3,3;j1,2,4,4;j2,1,5,5;");
        verse(y, 0, 0, 0, 0);
        saidIs(y, 0, 0, 130, 258, 257);
    }

    // ---- sayings

    private static void say() {
        SaidWoven x = laid(THREE);
        verse(x, 0, 0, 1, 2);
        due("say(0, 4)", x.say(0, 4), 19);
        due("count(2)", x.count(2), 19);
        due("say(1, 0) of an empty verse", x.say(1, 0), NO);
        due("say(1, 5) of an empty verse", x.say(1, 5), BAD);
        due("say(0, 5)", x.say(0, 5), BAD);
        due("say(0, -1)", x.say(0, -1), BAD);
        due("say(6, 0)", x.say(6, 0), BAD);
        due("say(-1, 0)", x.say(-1, 0), BAD);
        due("count(2) after refusals", x.count(2), 19);
        due("say(0, 1)", x.say(0, 1), 3);
        due("its first token", x.alter(0, 10), 10);
        due("its second token", x.alter(1, 421), 421);
        due("its third token", x.alter(2, 11), 11);
        x.clear(0);
        due("the saying stays when the verse goes", x.count(2), 3);
        due("soundSo", x.soundSo(), 1);
    }

    private static void alter() {
        SaidWoven x = laid(THREE);
        due("alter without a saying", x.alter(0, 0), BAD);
        verse(x, 0, 0, 1);
        x.say(0, 1);
        due("alter(0, 1023)", x.alter(0, 1023), 10);
        due("alter(0, 0)", x.alter(0, 0), 1023);
        due("alter(1, 5)", x.alter(1, 5), 421);
        due("alter(0, 1024)", x.alter(0, 1024), BAD);
        due("alter(0, -1)", x.alter(0, -1), BAD);
        due("alter(2, 0)", x.alter(2, 0), BAD);
        due("alter(-1, 0)", x.alter(-1, 0), BAD);
        due("alter(HIGH, HIGH)", x.alter(HIGH, HIGH), BAD);
        due("after refusals", x.alter(0, 7), 0);
        due("the verse stays", x.said(0, 1, 0), 10);
    }

    private static void soundSo() {
        SaidWoven x = laid(HIDING);
        verse(x, 0, 0, 1, 0, 1);
        x.say(0, 0);
        due("joined: 0 or 2, twice", x.soundSo(), 4);
        x.say(0, 2);
        due("stepped: the second 0 also ends a group, and is heard there", x.soundSo(), 2);
        x.say(0, 1);
        due("parted", x.soundSo(), 1);
        x.say(0, 3);
        due("braided", x.soundSo(), 1);
        x.alter(0, 14);
        due("braided, altered", x.soundSo(), 0);
        x.alter(0, 15);
        due("altered back", x.soundSo(), 1);
        // all sixteen words have body 0 and edges that joinings make 0: inner words all sound alike
        StringBuilder all = new StringBuilder();
        for (int l = 0; l < 4; l++) {
            for (int f = 0; f < 4; f++) {
                all.append("w").append(f).append(",0,").append(l).append(";");
            }
        }
        for (int l = 0; l < 4; l++) {
            for (int f = 0; f < 4; f++) {
                all.append("j").append(l).append(",").append(f).append(",0,0;");
            }
        }
        SaidWoven y = laid(all.toString());
        verse(y, 0, 0, 0, 0, 0, 0, 0, 0, 0);
        y.say(0, 0);
        // the first word's first edge and the last word's last edge are heard: 4 of 16 each, 16 six times
        due("more than an int holds is not reached", y.soundSo(), 16L * 16 * 16 * 16 * 16 * 16 * 4 * 4);
        y.alter(0, 1023);
        y.alter(7, 1023);
        due("soundSo of none", y.soundSo(), 0);
        due("all rows are nearest: 16 to the 8th", y.rivals(), 4294967296L);
        due("nearest", y.nearest(1), 2);
        verseIs("the lowest row", y, 1, 0, 0, 0, 0, 0, 0, 0, 0);
    }

    private static void nearest() {
        SaidWoven x = laid(FOUR);
        verse(x, 0, 3, 2, 1);
        x.say(0, 0);
        due("nearest(6)", x.nearest(6), BAD);
        due("nearest(-1)", x.nearest(-1), BAD);
        verse(x, 1, 0, 0, 0, 0, 0);
        due("nearest to what was said", x.nearest(1), 0);
        verseIs("the same row", x, 1, 3, 2, 1);
        x.alter(1, 1000);
        due("nearest with a slip", x.nearest(2), 1);
        verseIs("the lowest row", x, 2, 3, 0, 1);
        x.say(0, 3);
        // 3 2 2 3 3 2, 2 1 1 2 2 1: the places of 2 altered to 0 but one in each group
        x.alter(1, 0);
        x.alter(2, 0);
        x.alter(6, 0);
        x.alter(9, 0);
        due("four of six altered", x.nearest(2), 2);
        verseIs("what most tokens say", x, 2, 3, 0, 1);
        x.alter(9, 274);
        due("three of six altered", x.nearest(2), 3);
        verseIs("of two the lower", x, 2, 3, 0, 1);
        due("rivals", x.rivals(), 2);
        x.alter(6, 274);
        due("two of six altered", x.nearest(2), 2);
        verseIs("again as it was", x, 2, 3, 2, 1);
        due("the saying stays", x.count(2), 12);
        due("nearest into the verse itself", x.nearest(0), 2);
        verseIs("itself", x, 0, 3, 2, 1);
        SaidWoven y = new SaidWoven();
        due("nearest(0) without a saying", y.nearest(0), NO);
        due("nearest(6) without a saying", y.nearest(6), BAD);
    }

    private static void rivals() {
        SaidWoven x = laid(FOUR);
        verse(x, 0, 3, 2, 1);
        due("rivals without a saying", x.rivals(), NO);
        x.say(0, 0);
        due("rivals", x.rivals(), 1);
        x.alter(0, 1);
        due("one token of no word", x.rivals(), 4);
        x.alter(2, 1);
        due("two tokens of no word", x.rivals(), 16);
        x.alter(1, 1);
        due("three tokens of no word", x.rivals(), 64);
        SaidWoven y = laid(HIDING);
        verse(y, 0, 0, 1);
        y.say(0, 4);
        due("dense", y.rivals(), 1);
        y.say(0, 0);
        due("joined", y.rivals(), 2);
    }

    // ---- ways

    private static void far() {
        SaidWoven x = laid(FOUR);
        verse(x, 0, 0, 1, 2);
        // without joinings another word at the first or last place is heard as often as that place comes
        int[] far = {1, 1, 1, 3, 5};
        for (int way = 0; way < 5; way++) {
            due("far by " + way, x.far(0, 1 << way, 0), far[way]);
        }
        due("far by all", x.far(0, 31, 0), 11);
        due("shows by all", x.far(0, 31, 1), 10);
        due("mends by all", x.far(0, 31, 2), 5);
        due("shows by braided", x.far(0, 8, 1), 2);
        due("mends by braided", x.far(0, 8, 2), 1);
        due("shows by joined", x.far(0, 1, 1), 0);
        due("mends by joined", x.far(0, 1, 2), 0);
        due("mends of an even number", x.far(0, 9, 2), 1);
        due("far by none", x.far(0, 0, 0), 0);
        due("shows by none", x.far(0, 0, 1), 0);
        due("mends by none", x.far(0, 0, 2), 0);
        due("far of an empty verse", x.far(1, 31, 0), NO);
        due("far(0, 32, 0)", x.far(0, 32, 0), BAD);
        due("far(0, -1, 0)", x.far(0, -1, 0), BAD);
        due("far(0, 0, 3)", x.far(0, 0, 3), BAD);
        due("far(0, 0, -1)", x.far(0, 0, -1), BAD);
        due("far(6, 0, 0)", x.far(6, 0, 0), BAD);
        due("far(-1, 0, 0)", x.far(-1, 0, 0), BAD);
        due("far(1, 32, 0)", x.far(1, 32, 0), BAD);
        SaidWoven hiding = laid(HIDING);
        verse(hiding, 0, 0, 1);
        due("joined hides", hiding.far(0, 1, 0), 0);
        due("stepped hides", hiding.far(0, 4, 0), 0);
        due("both hide", hiding.far(0, 5, 0), 0);
        due("parted shows", hiding.far(0, 2, 0), 1);
        SaidWoven one = laid("w1,2,3;");
        due("far of an empty verse, one word", one.far(0, 31, 0), NO);
        verse(one, 0, 0, 0);
        for (int what = 0; what < 3; what++) {
            due("far with no other row", one.far(0, 31, what), NONE);
        }
        due("far with no other row, by none", one.far(0, 0, 0), NONE);
        due("far with no other row, wrong", one.far(0, 32, 0), BAD);
    }

    private static void best() {
        SaidWoven x = laid(FOUR + "h0,2;h1,1;h2,0;h3,5;h4,9;");
        verse(x, 0, 0, 1, 2);
        // far is 1, 1, 1, 3, 5 by ways of 2, 1, 0, 5, 9 hours
        int[][] due = {{0, 4, 1}, {1, 6, 2}, {2, 5, 2}, {3, 7, 3}, {4, 7, 3}, {5, 12, 4}, {6, 14, 5}, {8, 15, 6},
            {9, 15, 6}, {10, 22, 7}, {12, 23, 8}, {13, 23, 8}, {14, 28, 9}, {15, 30, 10}, {16, 29, 10}, {17, 31, 11},
            {495, 31, 11}};
        for (int[] row : due) {
            due("best(0, " + row[0] + ", 0)", x.best(0, row[0], 0), row[1]);
            due("best(0, " + row[0] + ", 1)", x.best(0, row[0], 1), row[2]);
        }
        due("best of an empty verse", x.best(1, 9, 0), NO);
        due("best of an empty verse, wrong", x.best(1, 9, 2), BAD);
        due("best(0, 496, 0)", x.best(0, 496, 0), BAD);
        due("best(0, -1, 0)", x.best(0, -1, 0), BAD);
        due("best(0, 0, 2)", x.best(0, 0, 2), BAD);
        due("best(0, 0, -1)", x.best(0, 0, -1), BAD);
        due("best(6, 0, 0)", x.best(6, 0, 0), BAD);
        due("best(-1, 0, 0)", x.best(-1, 0, 0), BAD);
        SaidWoven plain = laid(FOUR);
        verse(plain, 0, 0, 1, 2);
        due("one hour each without h", plain.best(0, 1, 0), 16);
        due("no hours", plain.best(0, 0, 0), 0);
        due("no hours, far", plain.best(0, 0, 1), 0);
        verse(plain, 1, 3);
        due("one word: far 1 by each", plain.best(1, 1, 0), 1);
        due("one word: two ways", plain.best(1, 2, 0), 3);
        SaidWoven dear = laid(HIDING + "h0,99;h1,99;h2,99;h3,99;h4,99;");
        verse(dear, 0, 0, 1);
        due("too dear", dear.best(0, 98, 0), 0);
        due("parted, though joined has less bits", dear.best(0, 99, 0), 2);
        due("all hours", dear.best(0, 495, 0), 26);
        SaidWoven one = laid("w1,2,3;");
        due("best of an empty verse, one word", one.best(0, 9, 0), NO);
        verse(one, 0, 0);
        due("best with no other row", one.best(0, 9, 0), NONE);
        due("best with no other row, far", one.best(0, 0, 1), NONE);
        due("best with no other row, wrong", one.best(0, 496, 1), BAD);
    }

    private static void learnt() {
        SaidWoven x = laid(HIDING);
        verse(x, 0, 0, 1);
        due("learnt(0, 0, 2) is hidden", x.learnt(0, 0, 2), 26);
        due("learnt(0, 0, 1)", x.learnt(0, 0, 1), 31);
        due("learnt(0, 1, 0)", x.learnt(0, 1, 0), 31);
        verse(x, 1, 1, 0, 1);
        due("within a verse: stepped begins with it, yet hides it", x.learnt(1, 1, 2), 30);
        due("learnt(0, 0, 0)", x.learnt(0, 0, 0), BAD);
        due("learnt(0, 2, 0)", x.learnt(0, 2, 0), BAD);
        due("learnt(0, -1, 0)", x.learnt(0, -1, 0), BAD);
        due("learnt(0, 0, 3)", x.learnt(0, 0, 3), BAD);
        due("learnt(0, 0, -1)", x.learnt(0, 0, -1), BAD);
        due("learnt(6, 0, 1)", x.learnt(6, 0, 1), BAD);
        due("learnt(-1, 0, 1)", x.learnt(-1, 0, 1), BAD);
        due("learnt(2, 0, 1) of an empty verse", x.learnt(2, 0, 1), BAD);
        due("learnt(0, 8, 1)", x.learnt(0, 8, 1), BAD);
        verseIs("the verse stays", x, 0, 0, 1);
    }

    private static void slip() {
        SaidWoven x = laid(THREE);
        due("slip(0, 8, 0)", x.slip(0, 8, 0), BAD);
        due("slip(0, -1, 0)", x.slip(0, -1, 0), BAD);
        due("slip(0, 0, 3)", x.slip(0, 0, 3), BAD);
        due("slip(0, 0, -1)", x.slip(0, 0, -1), BAD);
        due("slip(6, 0, 0)", x.slip(6, 0, 0), BAD);
        due("slip(-1, 0, 0)", x.slip(-1, 0, 0), BAD);
        due("count(3)", x.count(3), 0);
        for (int i = 1; i <= 20; i++) {
            due("slip in an empty verse", x.slip(5, 7, 2), i);
        }
        due("slip 21", x.slip(5, 7, 2), FULL);
        due("slip 21, wrong", x.slip(5, 8, 2), BAD);
        due("count(3)", x.count(3), 20);
    }

    private static void noSlips() {
        SaidWoven x = laid(THREE);
        due("noSlips", x.noSlips(), 0);
        verse(x, 0, 0);
        x.slip(0, 0, 1);
        x.slip(0, 0, 2);
        due("noSlips", x.noSlips(), 2);
        due("noSlips again", x.noSlips(), 0);
        due("slips(3)", x.slips(3), 0);
        due("slip", x.slip(0, 0, 1), 1);
    }

    private static void slips() {
        SaidWoven x = laid(HIDING + "w3,9,5;w7,4,5;");
        due("slips(-1)", x.slips(-1), BAD);
        due("slips(4)", x.slips(4), BAD);
        for (int what = 0; what < 4; what++) {
            due("slips(" + what + ") of none", x.slips(what), 0);
        }
        verse(x, 0, 0, 1);
        x.slip(0, 1, 3);
        due("a body: shown by all", x.slips(1), 1);
        due("a body: listed", x.slips(2), 1);
        due("a body: not hidden", x.slips(0), 0);
        x.slip(0, 1, 4);
        due("a first edge: listed", x.slips(2), 2);
        due("a first edge: shown by all", x.slips(1), 1);
        x.slip(0, 0, 2);
        due("a last edge: hidden", x.slips(0), 1);
        due("a last edge: parted shows all", x.slips(1), 2);
        due("a last edge: not listed", x.slips(2), 2);
        SaidWoven first = laid(HIDING);
        verse(first, 0, 0, 1);
        first.slip(0, 0, 2);
        due("the first one is hidden", first.slips(0), 1);
        due("the first one is shown by parted", first.slips(1), 2);
        x.slip(0, 1, 1);
        x.slip(0, 2, 1);
        x.slip(1, 0, 1);
        due("three are such", x.slips(3), 3);
        due("count(3)", x.count(3), 6);
        x.add(0, 3);
        due("a place more", x.slips(3), 4);
        verse(x, 1, 0);
        due("a verse more", x.slips(3), 5);
        verse(x, 0, 2, 3);
        due("as the verses are now", x.slips(3), 3);
        due("hidden now", x.slips(0), 0);
        due("listed now", x.slips(2), 3);
    }

    private static void list() {
        SaidWoven x = laid("w0,15,2;w3,4,5;w0,1,3;w7,9,0;");
        for (int e = 0; e <= 8; e++) {
            due("list(0, " + e + ") of an empty verse", x.list(0, e), 0);
        }
        verse(x, 0, 0, 1, 2, 3, 0);
        int[] nine = {3, 0, 0, 1, 0, 0, 0, 1, (15 + 4 + 1 + 9 + 15) % 16};
        for (int e = 0; e <= 8; e++) {
            due("list(0, " + e + ")", x.list(0, e), nine[e]);
        }
        due("list(0, 9)", x.list(0, 9), BAD);
        due("list(0, -1)", x.list(0, -1), BAD);
        due("list(6, 0)", x.list(6, 0), BAD);
        due("list(-1, 0)", x.list(-1, 0), BAD);
        verse(x, 1, 0, 2);
        due("a sum of 16", x.list(1, 8), 0);
    }

    // ---- heads

    private static void head() {
        SaidWoven x = new SaidWoven();
        due("head(-1, -1, 0)", x.head(-1, -1, 0), BAD);
        due("head(3001, -1, 0)", x.head(3001, -1, 0), BAD);
        due("head(0, -2, 0)", x.head(0, -2, 0), BAD);
        due("head(0, 0, 0)", x.head(1, 0, 0), BAD);
        due("head(0, -1, 6)", x.head(0, -1, 6), BAD);
        due("head(0, -1, -1)", x.head(0, -1, -1), BAD);
        due("count(4)", x.count(4), 0);
        due("head(0, -1, 0)", x.head(0, -1, 0), 0);
        due("taught in the same year", x.head(0, 0, 0), BAD);
        due("taught a year later", x.head(1, 0, 5), 1);
        due("head(3000, 1, 5)", x.head(3000, 1, 5), 2);
        due("taught by one to come", x.head(3000, 3, 5), BAD);
        due("taught by a later one", x.head(2999, 2, 5), BAD);
        due("taught by one in the same year", x.head(3000, 2, 5), BAD);
        for (int i = 3; i < 16; i++) {
            due("head", x.head(2, 0, 0), i);
        }
        due("head 16", x.head(2, 0, 0), FULL);
        due("head 16, wrong", x.head(2, 0, 6), BAD);
        due("head 16, taught later", x.head(2, 2, 0), BAD);
        due("head 16, taught by 16", x.head(2, 16, 0), BAD);
        due("count(4)", x.count(4), 16);
    }

    private static void alive() {
        SaidWoven x = new SaidWoven();
        due("alive of none", x.alive(0, true), BAD);
        x.head(0, -1, 0);
        x.head(0, -1, 1);
        due("alive at first", x.alive(0, true), 1);
        due("alive(0, false)", x.alive(0, false), 1);
        due("alive(0, false) again", x.alive(0, false), 0);
        due("the other", x.alive(1, true), 1);
        due("alive(0, true)", x.alive(0, true), 0);
        due("alive(0, true) again", x.alive(0, true), 1);
        due("alive(2, true)", x.alive(2, true), BAD);
        due("alive(-1, false)", x.alive(-1, false), BAD);
        x.alive(1, false);
        x.lay();
        x.head(0, -1, 0);
        x.head(0, -1, 0);
        due("a new head is alive", x.alive(1, true), 1);
    }

    private static void same() {
        SaidWoven x = laid(THREE);
        due("same(0) with no heads", x.same(0), 1);
        due("same(-1)", x.same(-1), BAD);
        due("same(8)", x.same(8), BAD);
        due("same(7)", x.same(7), 1);
        verse(x, 0, 0, 1, 2);
        verse(x, 1, 0, 2);
        x.head(0, -1, 0);
        x.head(0, -1, 1);
        x.head(0, -1, 2);
        due("same(0)", x.same(0), 1);
        due("same(1)", x.same(1), 0);
        due("same(2): one has it", x.same(2), 1);
        due("same(3): none has it", x.same(3), 1);
        x.alive(1, false);
        due("same(1) of those alive", x.same(1), 1);
        verse(x, 2, 2);
        due("same(0) now", x.same(0), 0);
    }

    private static void since() {
        SaidWoven x = laid(THREE);
        verse(x, 0, 0, 1);
        verse(x, 1, 0, 2);
        due("since(0, 0) with no heads", x.since(0, 0), NONE);
        due("since(8, 0)", x.since(8, 0), BAD);
        due("since(-1, 0)", x.since(-1, 0), BAD);
        due("since(0, 3)", x.since(0, 3), BAD);
        due("since(0, -1)", x.since(0, -1), BAD);
        x.head(10, -1, 0);
        x.head(20, 0, 0);
        x.head(40, 1, 0);
        x.head(30, 1, 1);
        due("0 is alive", x.since(0, 0), 10);
        x.alive(0, false);
        due("1 is alive", x.since(0, 0), 20);
        due("not all have it", x.since(1, 1), NONE);
        due("none has it", x.since(0, 2), NONE);
        due("none has the place", x.since(2, 0), NONE);
        x.alive(1, false);
        due("2 and 3 have it from 1", x.since(0, 0), 20);
        x.alive(3, false);
        due("2 has it by itself", x.since(1, 1), 40);
        x.alive(2, false);
        due("nobody is alive", x.since(0, 0), NONE);
        x.alive(3, true);
        due("3 has it by itself", x.since(1, 2), 30);
        due("3 has not", x.since(1, 1), NONE);
        x.head(3000, -1, 0);
        due("no head in common", x.since(0, 0), NONE);
        x.alive(3, false);
        due("the one taught by none", x.since(0, 0), 3000);
        x.head(0, -1, 2);
        due("one whose verse is empty", x.since(0, 0), NONE);
        x.alive(4, false);
        verse(x, 2, 0);
        due("year 0", x.since(0, 0), 0);
    }

    private static void lost() {
        SaidWoven x = new SaidWoven();
        due("lost(0) with no heads", x.lost(0), 0);
        due("lost(1) with no heads", x.lost(1), BAD);
        due("lost(-1) with no heads", x.lost(-1), BAD);
        x.head(0, -1, 0);
        x.head(0, -1, 0);
        x.head(0, -1, 5);
        x.head(0, -1, 3);
        due("lost(0)", x.lost(0), 0);
        due("lost(1): 1 has it yet", x.lost(1), 0);
        due("lost(3)", x.lost(3), 1);
        due("lost(4)", x.lost(4), 32);
        due("lost(13)", x.lost(13), 40);
        due("lost(15)", x.lost(15), 41);
        due("lost(16)", x.lost(16), BAD);
        due("lost(-1)", x.lost(-1), BAD);
        due("lost(LOW)", x.lost(LOW), BAD);
        x.alive(1, false);
        due("lost(1) now", x.lost(1), 1);
        due("lost(2): it was not alive", x.lost(2), 0);
        x.alive(0, false);
        due("lost(3): none were alive", x.lost(3), 0);
        for (int i = 4; i < 16; i++) {
            x.head(0, -1, 2);
        }
        due("lost of all sixteen", x.lost(65535), 44);
        due("lost(65536)", x.lost(65536), BAD);
        due("lost(HIGH)", x.lost(HIGH), BAD);
    }

    private static void from() {
        SaidWoven x = new SaidWoven();
        due("from(0, 0) with no heads", x.from(0, 0), NONE);
        due("from(1, 0) with no heads", x.from(1, 0), BAD);
        x.head(0, -1, 3);
        x.head(0, -1, 0);
        x.head(0, -1, 0);
        due("from(0, 0)", x.from(0, 0), 1);
        due("from(2, 0)", x.from(2, 0), 2);
        due("from(6, 0)", x.from(6, 0), NONE);
        due("from(6, 3)", x.from(6, 3), 0);
        due("from(0, 5)", x.from(0, 5), NONE);
        due("from(8, 0)", x.from(8, 0), BAD);
        due("from(-1, 0)", x.from(-1, 0), BAD);
        due("from(0, 6)", x.from(0, 6), BAD);
        due("from(0, -1)", x.from(0, -1), BAD);
        x.alive(1, false);
        due("from(0, 0) of those alive", x.from(0, 0), 2);
        x.alive(2, false);
        due("from(0, 0) of nobody", x.from(0, 0), NONE);
        for (int i = 3; i < 16; i++) {
            x.head(0, -1, 3);
        }
        due("from of sixteen", x.from(0, 0), NONE);
        due("from of all but the last", x.from(32767, 3), 15);
        due("from of all", x.from(65535, 3), NONE);
        x.lay();
        due("from after lay", x.from(0, 3), NONE);
        due("lost after lay", x.lost(0), 0);
    }

    private static void odds() {
        SaidWoven x = new SaidWoven();
        due("odds(0, 0, 4) above", x.odds(0, 0, 4, 0), 1);
        due("odds(0, 0, 4) below", x.odds(0, 0, 4, 1), 1);
        due("odds(100, 0, 1) above", x.odds(100, 0, 1, 0), 0);
        due("odds(100, 0, 4) below", x.odds(100, 0, 4, 1), 1);
        due("odds(100, 100, 3) above", x.odds(100, 100, 3, 0), 1);
        due("odds(100, 100, 3) below", x.odds(100, 100, 3, 1), 1);
        due("odds(50, 0, 3) above", x.odds(50, 0, 3, 0), 1);
        due("odds(50, 0, 3) below", x.odds(50, 0, 3, 1), 8);
        // 9999 has no divisor in common with 10000
        due("odds(1, 99, 1) above", x.odds(1, 99, 1, 0), 9999);
        due("odds(1, 99, 4) above", x.odds(1, 99, 4, 0), 9999L * 9999 * 9999 * 9999);
        due("odds(1, 99, 4) below", x.odds(1, 99, 4, 1), 10000000000000000L);
        due("odds(10, 50, 2) above", x.odds(10, 50, 2, 0), 361);
        due("odds(10, 50, 2) below", x.odds(10, 50, 2, 1), 400);
        int[][] wrongs = {{-1, 0, 1, 0}, {101, 0, 1, 0}, {0, -1, 1, 0}, {0, 101, 1, 0}, {0, 0, 0, 0}, {0, 0, 5, 0},
            {0, 0, 1, -1}, {0, 0, 1, 2}, {LOW, LOW, LOW, LOW}, {HIGH, HIGH, HIGH, HIGH}};
        for (int[] w : wrongs) {
            due("odds(" + w[0] + ", " + w[1] + ", " + w[2] + ", " + w[3] + ")", x.odds(w[0], w[1], w[2], w[3]), BAD);
        }
    }

    private static void keep() {
        SaidWoven x = new SaidWoven();
        due("keep", x.keep(), 1);
        due("keep", x.keep(), 2);
        due("keep a third", x.keep(), FULL);
        due("count(5)", x.count(5), 2);
        due("back", x.back(), 1);
        due("keep", x.keep(), 2);
        // a refused keep changes nothing of what was kept
        SaidWoven y = laid(THREE);
        verse(y, 0, 0);
        y.keep();
        verse(y, 0, 1);
        y.keep();
        verse(y, 0, 2);
        due("keep a third", y.keep(), FULL);
        verseIs("after FULL", y, 0, 2);
        y.back();
        verseIs("the second", y, 0, 1);
        y.back();
        verseIs("the first", y, 0, 0);
    }

    private static void back() {
        SaidWoven x = laid(THREE);
        due("back with nothing kept", x.back(), NO);
        verse(x, 0, 0, 1);
        verse(x, 5, 2);
        x.keep();
        x.say(0, 1);
        x.alter(0, 7);
        verse(x, 1, 2, 2, 2);
        x.keep();
        x.clear(5);
        x.say(1, 4);
        x.slip(0, 0, 1);
        x.head(5, -1, 0);
        verse(x, 0, 2);
        due("back", x.back(), 1);
        verseIs("as kept last", x, 0, 0, 1);
        verseIs("as kept last", x, 1, 2, 2, 2);
        verseIs("as kept last", x, 5, 2);
        due("its saying", x.count(2), 2);
        due("its altered token", x.alter(0, 10), 7);
        due("its way and words", x.soundSo(), 1);
        due("slips are not kept", x.count(3), 1);
        due("heads are not kept", x.count(4), 1);
        due("back", x.back(), 0);
        verseIs("as kept first", x, 0, 0, 1);
        verseIs("as kept first", x, 1);
        due("no saying then", x.count(2), 0);
        due("soundSo", x.soundSo(), NO);
        due("back", x.back(), NO);
        verseIs("after NO", x, 0, 0, 1);
    }

    private static void count() {
        SaidWoven x = laid(THREE);
        x.write(2, 0);
        verse(x, 0, 0, 1);
        verse(x, 5, 0, 1, 2, 0);
        x.say(0, 3);
        for (int i = 0; i < 3; i++) {
            x.slip(0, 0, 0);
        }
        for (int i = 0; i < 4; i++) {
            x.head(0, -1, 0);
        }
        x.keep();
        int[] due = {3, 23, 6, 3, 4, 1, 6};
        for (int what = 0; what <= 6; what++) {
            due("count(" + what + ")", x.count(what), due[what]);
        }
        due("count(-1)", x.count(-1), BAD);
        due("count(7)", x.count(7), BAD);
        due("count(LOW)", x.count(LOW), BAD);
        due("count(HIGH)", x.count(HIGH), BAD);
    }
}
