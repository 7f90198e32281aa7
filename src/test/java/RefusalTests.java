import java.util.ArrayList;
import java.util.List;
import java.util.function.Consumer;
import java.util.function.Supplier;
import java.util.function.ToLongFunction;

/**
 * "Of several the first; nothing changes then." Two objects are made alike; one of them gets a
 * call that is refused, or that only asks; whatever is looked at afterwards is alike in both.
 */
public final class RefusalTests extends Checks {
    /** What was seen of an object, call by call; it counts the calls, of which there are 512. */
    private static final class Seen {
        final List<String> calls = new ArrayList<>();
        final List<Long> answers = new ArrayList<>();

        void see(String call, long answer) {
            calls.add(call);
            answers.add(answer);
        }
    }

    private interface Look {
        void at(SaidWoven x, Seen seen);
    }

    private static final List<Look> LOOKS = List.of(
        RefusalTests::lookAtCounts, RefusalTests::lookAtWhatIsLaid, RefusalTests::lookAtTheText,
        RefusalTests::lookAtVersesAndSayings, RefusalTests::lookAtSlips, RefusalTests::lookAtHeads);

    private static Supplier<SaidWoven> state;
    private static String stateName;

    public static void main(String[] args) {
        in("a new object", SaidWoven::new);
        ofANewObject();
        in("some of everything", RefusalTests::someOfEverything);
        badNumbers(3, 4);
        notAsThingsStand();
        noneThere();
        asking();
        in("everything full", RefusalTests::everythingFull);
        everythingIsFull();
        badNumbers(16, 16);
        full();
        asking();
        in("one word", RefusalTests::oneWord);
        noOtherRow();
        in("a text with a fault", RefusalTests::faulty);
        layingAFault();
        in("nothing but words", () -> laid(FOUR));
        nothingButWords();
        whatChangesIsSeen();
        end("refused calls change nothing");
    }

    // ---- states, each made in some 130 calls at most

    private static SaidWoven someOfEverything() {
        SaidWoven x = laid(HIDING + "h0,3;h3,2;h4,7;");
        verse(x, 0, 0, 1);
        verse(x, 2, 2, 0, 1);
        verse(x, 4, 0, 1, 2, 0, 1, 2, 0, 1);
        x.say(0, 0);
        x.keep();
        verse(x, 3, 1);
        verse(x, 5, 2, 2);
        x.say(2, 3);
        x.alter(1, 1023);
        x.alter(11, 0);
        x.slip(0, 0, 2);
        x.slip(2, 2, 0);
        x.slip(1, 7, 1);
        x.head(100, -1, 0);
        x.head(130, 0, 0);
        x.head(160, 1, 2);
        x.head(3000, 1, 5);
        x.alive(1, false);
        text(x, "w7,7,7;w6,6,6;w5,5,5;w4,4,4;j7,6,1,2;h2,9;");
        return x;
    }

    private static SaidWoven everythingFull() {
        SaidWoven x = laid(words(16) + "j7,1,2,3;j0,0,4,5;h0,1;h1,2;h2,4;h3,8;h4,9;" + "h4,16;".repeat(5) + "h3,8;".repeat(23));
        for (int v = 0; v < 6; v++) {
            verse(x, v, v, 15, 14 - v, 3, v + 8, 9, 0, v);
        }
        x.say(1, 0);
        x.keep();
        x.say(2, 1);
        x.alter(7, 1000);
        x.keep();
        x.say(3, 2);
        x.alter(0, 1023);
        for (int i = 0; i < 20; i++) {
            x.slip(i % 6, i % 8, i % 16);
        }
        for (int h = 0; h < 16; h++) {
            x.head(100 * h, h == 0 ? -1 : (h - 1) / 2, h % 6);
        }
        x.alive(5, false);
        return x;
    }

    private static SaidWoven oneWord() {
        SaidWoven x = laid("w1,2,3;j3,1,7,7;h1,4;");
        verse(x, 0, 0, 0);
        verse(x, 5, 0, 0, 0, 0, 0, 0, 0, 0);
        x.say(0, 3);
        x.alter(0, 0);
        x.slip(0, 0, 0);
        x.head(7, -1, 5);
        x.keep();
        return x;
    }

    private static SaidWoven faulty() {
        SaidWoven x = someOfEverything();
        text(x, "w7,7,7;j2,3,0,0;h0,99;w7,7,7;");
        return x;
    }

    // ---- looks, each of some 350 calls at most; they may change the object

    private static void lookAtCounts(SaidWoven x, Seen seen) {
        for (int what = 0; what <= 6; what++) {
            seen.see("count(" + what + ")", x.count(what));
        }
        seen.see("fault()", x.fault());
    }

    private static void lookAtWhatIsLaid(SaidWoven x, Seen seen) {
        int words = x.count(0);
        seen.see("count(0)", words);
        for (int l = 0; l < 8; l++) {
            for (int f = 0; f < 8; f++) {
                seen.see("joined(" + l + ", " + f + ")", x.joined(l, f));
            }
        }
        for (int w = 0; w <= words; w++) {
            x.clear(0);
            seen.see("add(0, " + w + ")", x.add(0, w));
            seen.see("said(0, 1, 0) of " + w, x.said(0, 1, 0));
        }
        x.clear(0);
        x.add(0, 0);
        for (int hours = 0; hours <= 32; hours++) {
            seen.see("best(0, " + hours + ", 0)", x.best(0, hours, 0));
        }
    }

    private static void lookAtTheText(SaidWoven x, Seen seen) {
        seen.see("count(1)", x.count(1));
        seen.see("fault()", x.fault());
        seen.see("lay()", x.lay());
        lookAtWhatIsLaid(x, seen);
    }

    private static void lookAtVersesAndSayings(SaidWoven x, Seen seen) {
        for (int book = 0; book < 3; book++) {
            for (int v = 0; v < 6; v++) {
                for (int p = 0; p < 8; p++) {
                    seen.see("word(" + v + ", " + p + ")", x.word(v, p));
                }
            }
            int tokens = x.count(2);
            seen.see("count(2)", tokens);
            seen.see("soundSo()", x.soundSo());
            seen.see("rivals()", x.rivals());
            for (int i = 0; i <= tokens; i++) {
                seen.see("alter(" + i + ", 0)", x.alter(i, 0));
            }
            seen.see("back()", x.back());
        }
    }

    private static void lookAtSlips(SaidWoven x, Seen seen) {
        for (int what = 0; what <= 3; what++) {
            seen.see("slips(" + what + ")", x.slips(what));
        }
        for (int v = 0; v < 6; v++) {
            x.clear(v);
            for (int p = 0; p < 8; p++) {
                x.add(v, p % 3);
                seen.see("slips(3) with " + (p + 1) + " in " + v, x.slips(3));
            }
            seen.see("slips(2) with all in " + v, x.slips(2));
            seen.see("slips(1) with all in " + v, x.slips(1));
            seen.see("slips(0) with all in " + v, x.slips(0));
            x.clear(v);
        }
        seen.see("noSlips()", x.noSlips());
    }

    private static void lookAtHeads(SaidWoven x, Seen seen) {
        int heads = x.count(4);
        seen.see("lost of all", x.lost((1 << heads) - 1));
        for (int h = 0; h < heads; h++) {
            seen.see("lost(" + (1 << h) + ")", x.lost(1 << h));
            seen.see("alive(" + h + ", false)", x.alive(h, false));
        }
        for (int v = 0; v < 6; v++) {
            verse(x, v, 0);
        }
        for (int h = 0; h < heads; h++) {
            x.alive(h, true);
            seen.see("since(0, 0) of " + (h - 1) + " and " + h, x.since(0, 0));
            if (h > 0) {
                x.alive(h - 1, false);
            }
            seen.see("since(0, 0) of " + h, x.since(0, 0));
            seen.see("lost of " + h, x.lost(1 << h));
        }
        seen.see("head(3000, -1, 0)", x.head(3000, -1, 0));
    }

    // ---- twins

    private static void in(String name, Supplier<SaidWoven> made) {
        stateName = name;
        state = made;
    }

    private static void refused(String call, int want, ToLongFunction<SaidWoven> made) {
        due(stateName + ": " + call, made.applyAsLong(state.get()), want);
        alike(call, made::applyAsLong);
    }

    private static void alike(String call, Consumer<SaidWoven> made) {
        for (Look look : LOOKS) {
            String difference = difference(look, made);
            if (difference != null) {
                due(stateName + ": after " + call + ", " + difference, 1, 0);
            }
        }
    }

    /** Null, if the call left no trace that a look can see. */
    private static String difference(Look look, Consumer<SaidWoven> made) {
        SaidWoven one = state.get();
        SaidWoven other = state.get();
        made.accept(other);
        Seen before = new Seen();
        Seen after = new Seen();
        look.at(one, before);
        look.at(other, after);
        for (int i = 0; i < Math.min(before.calls.size(), after.calls.size()); i++) {
            if (!before.answers.get(i).equals(after.answers.get(i))) {
                return before.calls.get(i) + ": " + after.answers.get(i) + ", not " + before.answers.get(i);
            }
        }
        return before.calls.equals(after.calls) ? null : "other calls";
    }

    // ---- refusals

    /** BAD comes before all others, so these are BAD in every state. */
    private static void badNumbers(int words, int heads) {
        promise = 2;
        for (int n : new int[] {LOW, -1, 0, 9, HIGH}) {
            refused("write(" + n + ", 1)", BAD, x -> x.write(n, 1));
        }
        promise = 6;
        for (int e : new int[] {LOW, -1, 8, HIGH}) {
            refused("joined(" + e + ", 0)", BAD, x -> x.joined(e, 0));
            refused("joined(0, " + e + ")", BAD, x -> x.joined(0, e));
        }
        for (int verse : new int[] {LOW, -1, 6, HIGH}) {
            badVerses(verse);
        }
        for (int word : new int[] {LOW, -1, words, HIGH}) {
            badWords(word);
        }
        for (int place : new int[] {LOW, -1, 8, HIGH}) {
            badPlaces(place);
        }
        for (int way : new int[] {LOW, -1, 5, HIGH}) {
            promise = 10;
            refused("said(0, " + way + ", 0)", BAD, x -> x.said(0, way, 0));
            promise = 11;
            refused("say(0, " + way + ")", BAD, x -> x.say(0, way));
        }
        badHeads(heads);
        otherBadNumbers();
    }

    private static void badVerses(int verse) {
        promise = 7;
        refused("add(" + verse + ", 0)", BAD, x -> x.add(verse, 0));
        promise = 8;
        refused("clear(" + verse + ")", BAD, x -> x.clear(verse));
        promise = 9;
        refused("word(" + verse + ", 0)", BAD, x -> x.word(verse, 0));
        promise = 10;
        refused("said(" + verse + ", 0, 0)", BAD, x -> x.said(verse, 0, 0));
        promise = 11;
        refused("say(" + verse + ", 0)", BAD, x -> x.say(verse, 0));
        promise = 14;
        refused("nearest(" + verse + ")", BAD, x -> x.nearest(verse));
        promise = 16;
        refused("far(" + verse + ", 0, 0)", BAD, x -> x.far(verse, 0, 0));
        promise = 17;
        refused("best(" + verse + ", 0, 0)", BAD, x -> x.best(verse, 0, 0));
        promise = 18;
        refused("learnt(" + verse + ", 0, 1)", BAD, x -> x.learnt(verse, 0, 1));
        promise = 19;
        refused("slip(" + verse + ", 0, 0)", BAD, x -> x.slip(verse, 0, 0));
        promise = 22;
        refused("list(" + verse + ", 0)", BAD, x -> x.list(verse, 0));
        promise = 23;
        refused("head(0, -1, " + verse + ")", BAD, x -> x.head(0, -1, verse));
        promise = 28;
        refused("from(0, " + verse + ")", BAD, x -> x.from(0, verse));
    }

    private static void badWords(int word) {
        promise = 7;
        refused("add(0, " + word + ")", BAD, x -> x.add(0, word));
        refused("add(4, " + word + ")", BAD, x -> x.add(4, word));
        promise = 18;
        refused("learnt(0, 0, " + word + ")", BAD, x -> x.learnt(0, 0, word));
        promise = 19;
        refused("slip(0, 0, " + word + ")", BAD, x -> x.slip(0, 0, word));
        promise = 26;
        refused("since(0, " + word + ")", BAD, x -> x.since(0, word));
    }

    private static void badPlaces(int place) {
        promise = 9;
        refused("word(0, " + place + ")", BAD, x -> x.word(0, place));
        promise = 18;
        refused("learnt(4, " + place + ", 0)", BAD, x -> x.learnt(4, place, 0));
        promise = 19;
        refused("slip(0, " + place + ", 0)", BAD, x -> x.slip(0, place, 0));
        promise = 25;
        refused("same(" + place + ")", BAD, x -> x.same(place));
        promise = 26;
        refused("since(" + place + ", 0)", BAD, x -> x.since(place, 0));
    }

    private static void badHeads(int heads) {
        promise = 23;
        for (int year : new int[] {LOW, -1, 3001, HIGH}) {
            refused("head(" + year + ", -1, 0)", BAD, x -> x.head(year, -1, 0));
        }
        for (int by : new int[] {LOW, -2, heads, HIGH}) {
            refused("head(3000, " + by + ", 0)", BAD, x -> x.head(3000, by, 0));
        }
        refused("head(100, 1, 0) by one of a later year", BAD, x -> x.head(100, 1, 0));
        refused("head(0, 0, 0) by one of no earlier year", BAD, x -> x.head(0, 0, 0));
        for (int head : new int[] {LOW, -1, heads, HIGH}) {
            promise = 24;
            refused("alive(" + head + ", true)", BAD, x -> x.alive(head, true));
            refused("alive(" + head + ", false)", BAD, x -> x.alive(head, false));
        }
        for (int set : new int[] {LOW, -1, 1 << heads, 1 << heads | 1, HIGH}) {
            promise = 27;
            refused("lost(" + set + ")", BAD, x -> x.lost(set));
            promise = 28;
            refused("from(" + set + ", 0)", BAD, x -> x.from(set, 0));
        }
    }

    private static void otherBadNumbers() {
        promise = 10;
        refused("said(0, 0, -2)", BAD, x -> x.said(0, 0, -2));
        promise = 12;
        for (int i : new int[] {LOW, -1, 84, HIGH}) {
            refused("alter(" + i + ", 5)", BAD, x -> x.alter(i, 5));
        }
        refused("alter of one beyond the last", BAD, x -> x.alter(x.count(2), 5));
        for (int token : new int[] {LOW, -1, 1024, HIGH}) {
            refused("alter(0, " + token + ")", BAD, x -> x.alter(0, token));
        }
        for (int bits : new int[] {LOW, -1, 32, HIGH}) {
            promise = 16;
            refused("far(0, " + bits + ", 0)", BAD, x -> x.far(0, bits, 0));
        }
        for (int hours : new int[] {LOW, -1, 496, HIGH}) {
            promise = 17;
            refused("best(0, " + hours + ", 0)", BAD, x -> x.best(0, hours, 0));
        }
        promise = 18;
        refused("learnt(0, 0, the same word)", BAD, x -> x.learnt(0, 0, x.word(0, 0)));
        for (int what : new int[] {LOW, -1, HIGH}) {
            promise = 16;
            refused("far(0, 0, " + what + ")", BAD, x -> x.far(0, 0, what));
            promise = 17;
            refused("best(0, 0, " + what + ")", BAD, x -> x.best(0, 0, what));
            promise = 21;
            refused("slips(" + what + ")", BAD, x -> x.slips(what));
            promise = 22;
            refused("list(0, " + what + ")", BAD, x -> x.list(0, what));
            promise = 32;
            refused("count(" + what + ")", BAD, x -> x.count(what));
        }
        promise = 16;
        refused("far(0, 0, 3)", BAD, x -> x.far(0, 0, 3));
        promise = 17;
        refused("best(0, 0, 2)", BAD, x -> x.best(0, 0, 2));
        promise = 21;
        refused("slips(4)", BAD, x -> x.slips(4));
        promise = 22;
        refused("list(0, 9)", BAD, x -> x.list(0, 9));
        promise = 29;
        refused("odds(101, 0, 1, 0)", BAD, x -> x.odds(101, 0, 1, 0));
        refused("odds(0, 101, 1, 0)", BAD, x -> x.odds(0, 101, 1, 0));
        refused("odds(0, 0, 5, 0)", BAD, x -> x.odds(0, 0, 5, 0));
        refused("odds(0, 0, 1, 2)", BAD, x -> x.odds(0, 0, 1, 2));
        promise = 32;
        refused("count(7)", BAD, x -> x.count(7));
    }

    private static void ofANewObject() {
        promise = 7;
        refused("add(0, 0)", BAD, x -> x.add(0, 0));
        promise = 10;
        refused("said(0, 0, 0): NO before NONE", NO, x -> x.said(0, 0, 0));
        refused("said(0, 5, 0): BAD before NO", BAD, x -> x.said(0, 5, 0));
        promise = 11;
        refused("say(0, 0)", NO, x -> x.say(0, 0));
        promise = 12;
        refused("alter(0, 0)", BAD, x -> x.alter(0, 0));
        promise = 13;
        refused("soundSo()", NO, SaidWoven::soundSo);
        promise = 14;
        refused("nearest(0)", NO, x -> x.nearest(0));
        refused("nearest(6): BAD before NO", BAD, x -> x.nearest(6));
        promise = 15;
        refused("rivals()", NO, SaidWoven::rivals);
        promise = 16;
        refused("far(0, 0, 0): NO before NONE", NO, x -> x.far(0, 0, 0));
        promise = 17;
        refused("best(0, 0, 0): NO before NONE", NO, x -> x.best(0, 0, 0));
        promise = 18;
        refused("learnt(0, 0, 0)", BAD, x -> x.learnt(0, 0, 0));
        promise = 19;
        refused("slip(0, 0, 0)", BAD, x -> x.slip(0, 0, 0));
        promise = 23;
        refused("head(1, 0, 0)", BAD, x -> x.head(1, 0, 0));
        promise = 24;
        refused("alive(0, true)", BAD, x -> x.alive(0, true));
        promise = 26;
        refused("since(0, 0): BAD before NONE", BAD, x -> x.since(0, 0));
        promise = 27;
        refused("lost(1)", BAD, x -> x.lost(1));
        promise = 28;
        refused("from(0, 0)", NONE, x -> x.from(0, 0));
        refused("from(1, 0): BAD before NONE", BAD, x -> x.from(1, 0));
        refused("from(0, 6): BAD before NONE", BAD, x -> x.from(0, 6));
        promise = 31;
        refused("back()", NO, SaidWoven::back);
    }

    /** Verse 1 is empty there. */
    private static void notAsThingsStand() {
        promise = 10;
        refused("said(1, 0, -1)", NO, x -> x.said(1, 0, -1));
        refused("said(1, 4, 84): NO before NONE", NO, x -> x.said(1, 4, 84));
        refused("said(1, 5, -1): BAD before NO", BAD, x -> x.said(1, 5, -1));
        refused("said(1, 0, -2): BAD before NO", BAD, x -> x.said(1, 0, -2));
        promise = 11;
        refused("say(1, 0)", NO, x -> x.say(1, 0));
        refused("say(1, 5): BAD before NO", BAD, x -> x.say(1, 5));
        promise = 16;
        refused("far(1, 31, 0)", NO, x -> x.far(1, 31, 0));
        refused("far(1, 32, 0): BAD before NO", BAD, x -> x.far(1, 32, 0));
        refused("far(1, 31, 3): BAD before NO", BAD, x -> x.far(1, 31, 3));
        promise = 17;
        refused("best(1, 495, 0)", NO, x -> x.best(1, 495, 0));
        refused("best(1, 496, 0): BAD before NO", BAD, x -> x.best(1, 496, 0));
        refused("best(1, 495, 2): BAD before NO", BAD, x -> x.best(1, 495, 2));
        promise = 18;
        refused("learnt(1, 0, 0)", BAD, x -> x.learnt(1, 0, 0));
        refused("learnt(0, 2, 0)", BAD, x -> x.learnt(0, 2, 0));
    }

    private static void noneThere() {
        promise = 4;
        refused("fault()", NONE, SaidWoven::fault);
        promise = 9;
        refused("word(1, 0)", NONE, x -> x.word(1, 0));
        refused("word(0, 2)", NONE, x -> x.word(0, 2));
        refused("word(6, 2): BAD before NONE", BAD, x -> x.word(6, 2));
        promise = 10;
        refused("said(0, 0, 2)", NONE, x -> x.said(0, 0, 2));
        refused("said(0, 5, 2): BAD before NONE", BAD, x -> x.said(0, 5, 2));
        promise = 26;
        refused("since(7, 0)", NONE, x -> x.since(7, 0));
        refused("since(0, 1)", NONE, x -> x.since(0, 1));
        refused("since(7, 3): BAD before NONE", BAD, x -> x.since(7, 3));
        promise = 28;
        refused("from(0, 4)", NONE, x -> x.from(0, 4));
        refused("from(16, 4): BAD before NONE", BAD, x -> x.from(16, 4));
    }

    private static void everythingIsFull() {
        SaidWoven x = everythingFull();
        int[] most = {16, 300, 14, 20, 16, 2, 48};
        for (int what = 0; what <= 6; what++) {
            due(stateName + ": count(" + what + ")", x.count(what), most[what]);
        }
    }

    private static void full() {
        promise = 2;
        for (int n = 1; n <= 8; n++) {
            int many = n;
            refused("write(" + n + ", 0)", FULL, x -> x.write(many, 0));
        }
        refused("write(9, 0): BAD before FULL", BAD, x -> x.write(9, 0));
        promise = 7;
        for (int v = 0; v < 6; v++) {
            int verse = v;
            refused("add(" + v + ", 15)", FULL, x -> x.add(verse, 15));
        }
        refused("add(0, 16): BAD before FULL", BAD, x -> x.add(0, 16));
        promise = 19;
        refused("slip(5, 7, 15)", FULL, x -> x.slip(5, 7, 15));
        refused("slip(5, 8, 15): BAD before FULL", BAD, x -> x.slip(5, 8, 15));
        promise = 23;
        refused("head(3000, 15, 5)", FULL, x -> x.head(3000, 15, 5));
        refused("head(1500, 15, 5): BAD before FULL", BAD, x -> x.head(1500, 15, 5));
        promise = 30;
        refused("keep()", FULL, SaidWoven::keep);
    }

    private static void noOtherRow() {
        promise = 16;
        refused("far(0, 31, 0)", NONE, x -> x.far(0, 31, 0));
        refused("far(0, 0, 1)", NONE, x -> x.far(0, 0, 1));
        refused("far(1, 31, 0): NO before NONE", NO, x -> x.far(1, 31, 0));
        refused("far(0, 32, 0): BAD before NONE", BAD, x -> x.far(0, 32, 0));
        promise = 17;
        refused("best(5, 495, 0)", NONE, x -> x.best(5, 495, 0));
        refused("best(1, 495, 0): NO before NONE", NO, x -> x.best(1, 495, 0));
        refused("best(5, 496, 0): BAD before NONE", BAD, x -> x.best(5, 496, 0));
        promise = 18;
        refused("learnt(0, 0, 0)", BAD, x -> x.learnt(0, 0, 0));
    }

    private static void layingAFault() {
        promise = 5;
        refused("lay()", NO, SaidWoven::lay);
        promise = 4;
        refused("fault()", 22, SaidWoven::fault);
    }

    private static void nothingButWords() {
        promise = 13;
        refused("soundSo()", NO, SaidWoven::soundSo);
        promise = 14;
        refused("nearest(5)", NO, x -> x.nearest(5));
        promise = 15;
        refused("rivals()", NO, SaidWoven::rivals);
        promise = 12;
        refused("alter(0, 0)", BAD, x -> x.alter(0, 0));
        promise = 26;
        refused("since(0, 0)", NONE, x -> x.since(0, 0));
        promise = 31;
        refused("back()", NO, SaidWoven::back);
    }

    /** Calls that only ask change nothing, either. */
    private static void asking() {
        promise = 0;
        alike("fault", SaidWoven::fault);
        alike("joined", x -> x.joined(2, 3));
        alike("word", x -> x.word(4, 7));
        alike("said", x -> x.said(4, 4, 83));
        alike("soundSo", SaidWoven::soundSo);
        alike("rivals", SaidWoven::rivals);
        alike("far", x -> x.far(4, 31, 0));
        alike("best", x -> x.best(4, 20, 1));
        alike("learnt", x -> x.learnt(4, 7, 2));
        for (int what = 0; what <= 3; what++) {
            int asked = what;
            alike("slips", x -> x.slips(asked));
        }
        alike("list", x -> x.list(4, 8));
        alike("same", x -> x.same(0));
        alike("since", x -> x.since(0, 0));
        alike("lost", x -> x.lost(5));
        alike("from", x -> x.from(5, 0));
        alike("odds", x -> x.odds(1, 99, 4, 0));
        alike("count", x -> x.count(6));
    }

    /** The looks are no use if they miss what does change. */
    private static void whatChangesIsSeen() {
        promise = 0;
        in("some of everything", RefusalTests::someOfEverything);
        seen("write", x -> x.write(1, ' '));
        seen("wipe", SaidWoven::wipe);
        seen("lay", SaidWoven::lay);
        seen("add", x -> x.add(1, 0));
        seen("clear", x -> x.clear(5));
        seen("say", x -> x.say(0, 1));
        seen("alter", x -> x.alter(5, 1));
        seen("nearest", x -> x.nearest(1));
        seen("slip", x -> x.slip(5, 0, 0));
        seen("noSlips", SaidWoven::noSlips);
        seen("head", x -> x.head(0, -1, 0));
        seen("alive", x -> x.alive(0, false));
        seen("keep", SaidWoven::keep);
        seen("back", SaidWoven::back);
    }

    private static void seen(String call, Consumer<SaidWoven> made) {
        for (Look look : LOOKS) {
            if (difference(look, made) != null) {
                return;
            }
        }
        due("a look that sees " + call, 0, 1);
    }
}
