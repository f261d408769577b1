import java.util.Arrays;
import java.util.HashSet;
import java.util.Set;
import java.util.function.Consumer;
import java.util.function.Supplier;
import java.util.stream.IntStream;

/**
 * A test of its own for each sentence of the document that names a boundary case: too small, too
 * large, empty, full, a wrap-around, a refused call. Each is told with its promise and the
 * sentence's words, so that a failure says which sentence is broken. No object is called more than
 * 512 times, since what it answers then is free.
 */
public final class BoundaryTest {
    private static final int NONE = CodeSearcher.NONE;
    private static final int MIN = Integer.MIN_VALUE;
    private static final int MAX = Integer.MAX_VALUE;

    /** The text 01010103; the words from 4 on are 01, 10, 010, 0103. */
    private static final int[] ORDINARY = {0, 1, 4, 6, 3};
    private static final int[] NO_CODES = {};

    private static final Set<String> told = new HashSet<>();
    private static String sentence = "";
    private static int wrong = 0;

    /** Asks one question of an object about a place or a number. */
    private interface Question {
        int ask(CodeSearcher x, int k);
    }

    private static void test(String words, Runnable body) {
        sentence = words;
        if (!told.add(words)) {
            complain("is told twice");
        }
        try {
            body.run();
        } catch (RuntimeException thrown) {
            complain("threw " + thrown);
        }
    }

    private static void complain(String what) {
        wrong++;
        System.out.println("[" + sentence + "] " + what);
    }

    private static void due(String call, long got, long want) {
        if (got != want) {
            complain(call + " answered " + got + ", due is " + want);
        }
    }

    private static void due(String call, boolean got, boolean want) {
        if (got != want) {
            complain(call + " answered " + got + ", due is " + want);
        }
    }

    private static void due(String call, String got, String want) {
        if (!got.equals(want)) {
            complain(call + " told " + got + ", due is " + want);
        }
    }

    // Objects to test with.

    private static CodeSearcher made(int[] codes, int... pattern) {
        CodeSearcher x = new CodeSearcher();
        feedAll(x, codes);
        extendAll(x, pattern);
        return x;
    }

    private static void feedAll(CodeSearcher x, int... codes) {
        for (int c : codes) {
            if (x.feed(c) < 1) {
                complain("feed(" + c + ") was refused while the test was set up");
            }
        }
    }

    private static void extendAll(CodeSearcher x, int... symbols) {
        for (int s : symbols) {
            if (!x.extend(s)) {
                complain("extend(" + s + ") was refused while the test was set up");
            }
        }
    }

    private static int[] row(int... codes) {
        return codes;
    }

    private static int[] joined(int[] codes, int... more) {
        return IntStream.concat(Arrays.stream(codes), Arrays.stream(more)).toArray();
    }

    private static int[] times(int count, int code) {
        return IntStream.range(0, count).map(i -> code).toArray();
    }

    /** Codes of 1, 2, 3, .. symbols, all 0: each but the first is the word that is being made. */
    private static int[] growing(int codes) {
        return IntStream.range(0, codes).map(i -> i == 0 ? 0 : i + 3).toArray();
    }

    /** Codes of one symbol each: 0 1 2 3 0 1 2 3 .. */
    private static int[] singles(int codes) {
        return IntStream.range(0, codes).map(i -> i % 4).toArray();
    }

    /** 231 symbols and 24 words: there is room for 19, and words 21, 22, 23 have 19, 20, 21. */
    private static int[] roomFor19() {
        return growing(21);
    }

    private static int[] fullText() {
        return joined(roomFor19(), 21);
    }

    /** 57 symbols; words 4 .. 59 are 01, 12, 23, 30 over and over. */
    private static int[] fullDictionary() {
        return singles(57);
    }

    private static int[] fullTextAndDictionary() {
        return singles(250);
    }

    // What an object tells of itself.

    private static String tells(Supplier<CodeSearcher> made, int size, Question question) {
        StringBuilder out = new StringBuilder();
        CodeSearcher x = null;
        for (int k = 0; k < size; k++) {
            if (k % 100 == 0) {
                x = made.get();
            }
            out.append(question.ask(x, k)).append(' ');
        }
        return out.toString();
    }

    private static String symbolsOfWord(Supplier<CodeSearcher> made, int w) {
        return tells(made, made.get().wordLength(w), (x, k) -> x.wordSymbol(w, k)).replace(" ", "");
    }

    private static String symbolsOfText(Supplier<CodeSearcher> made) {
        return tells(made, made.get().length(), (x, k) -> x.symbol(k)).replace(" ", "");
    }

    private static String symbolsOfPattern(CodeSearcher x) {
        StringBuilder out = new StringBuilder();
        int size = x.pattern();
        for (int i = 0; i < size; i++) {
            out.append(x.shorten());
        }
        return out.toString();
    }

    private static String numbers(CodeSearcher x) {
        return "codes " + x.codes() + " words " + x.words() + " length " + x.length() + " pattern " + x.pattern()
                + " count " + x.count() + " first " + x.first() + " last " + x.last() + " tail " + x.tail()
                + " within " + x.within();
    }

    /** All that can be asked; it goes to a new object again and again, for the 512 calls. */
    private static String all(Supplier<CodeSearcher> made) {
        StringBuilder out = new StringBuilder(numbers(made.get()));
        out.append(" text ").append(symbolsOfText(made));
        out.append(" words");
        int words = made.get().words();
        for (int w = 0; w < words; w++) {
            out.append(' ').append(symbolsOfWord(made, w));
        }
        out.append(" ending ").append(tells(made, made.get().codes(), (x, k) -> x.endingIn(k)));
        out.append("pattern ").append(symbolsOfPattern(made.get()));
        return out.toString();
    }

    private static Supplier<CodeSearcher> then(Supplier<CodeSearcher> made, Consumer<CodeSearcher> calls) {
        return () -> {
            CodeSearcher x = made.get();
            calls.accept(x);
            return x;
        };
    }

    /** What cannot be asked may show only in what later calls do. */
    private static void goOn(CodeSearcher x) {
        x.feed(x.words());
        x.feed(1);
        x.feed(4);
        x.shorten();
        x.extend(1);
    }

    private static void changesNothing(Supplier<CodeSearcher> made, Consumer<CodeSearcher> refused) {
        Supplier<CodeSearcher> after = then(made, refused);
        due("the object after the refused calls", all(after), all(made));
        due("the object that goes on after them", all(then(after, BoundaryTest::goOn)), all(then(made, BoundaryTest::goOn)));
    }

    private static void changesNothingAnywhere(Consumer<CodeSearcher> refused) {
        changesNothing(CodeSearcher::new, refused);
        changesNothing(() -> made(NO_CODES, 0, 1), refused);
        changesNothing(() -> made(ORDINARY), refused);
        changesNothing(() -> made(ORDINARY, 0, 1, 0), refused);
        changesNothing(() -> made(ORDINARY, 0, 1, 0, 1, 0, 3), refused);
        changesNothing(() -> made(fullText(), 0, 0), refused);
        changesNothing(() -> made(fullDictionary(), 3, 0), refused);
        changesNothing(() -> made(fullTextAndDictionary(), 0, 1), refused);
    }

    private static void feedRefused(CodeSearcher x, int... codes) {
        for (int c : codes) {
            due("feed(" + c + ")", x.feed(c), NONE);
        }
    }

    private static void extendRefused(CodeSearcher x, int... symbols) {
        for (int s : symbols) {
            due("extend(" + s + ")", x.extend(s), false);
        }
    }

    // What it is.

    private static void lastCallIsAFeed() {
        CodeSearcher x = new CodeSearcher();
        for (int i = 0; i < 511; i++) {
            x.codes();
        }
        due("call 512, feed(3)", x.feed(3), 1);
    }

    private static void lastCallIsACount() {
        CodeSearcher x = made(singles(250), 3);
        for (int i = 0; i < 260; i++) {
            due("feed(0) into a full text", x.feed(0), NONE);
        }
        due("call 512, count()", x.count(), 62);
    }

    private static void manyRestarts() {
        CodeSearcher x = new CodeSearcher();
        for (int i = 0; i < 127; i++) {
            due("feed(2)", x.feed(2), 1);
            due("feed(4)", x.feed(4), 2);
            x.restart();
            due("codes()", x.codes(), 0);
        }
        due("feed(3)", x.feed(3), 1);
        due("feed(4)", x.feed(4), 2);
        due("wordSymbol(4, 1)", x.wordSymbol(4, 1), 3);
        due("call 512, symbol(2)", x.symbol(2), 3);
    }

    private static void patternGoesRound() {
        CodeSearcher x = new CodeSearcher();
        extendAll(x, 0, 1, 2, 3, 0);
        for (int i = 5; i < 258; i++) {
            due("extend", x.extend(i % 4), true);
            due("shorten()", x.shorten(), (i - 5) % 4);
        }
        due("call 512, pattern()", x.pattern(), 5);
    }

    // Terms.

    private static void symbolsFrom0To3() {
        CodeSearcher x = new CodeSearcher();
        extendRefused(x, -1, 4);
        due("extend(0)", x.extend(0), true);
        due("extend(1)", x.extend(1), true);
        due("extend(2)", x.extend(2), true);
        due("extend(3)", x.extend(3), true);
        due("the pattern", symbolsOfPattern(x), "0123");
    }

    private static void wordsAtFirst() {
        due("words()", new CodeSearcher().words(), 4);
        for (int w = 0; w < 4; w++) {
            due("word " + w, symbolsOfWord(CodeSearcher::new, w), "" + w);
        }
        due("wordLength(4)", new CodeSearcher().wordLength(4), NONE);
    }

    private static void firstCodeAllowed() {
        for (int c = 0; c < 4; c++) {
            due("first feed(" + c + ")", new CodeSearcher().feed(c), 1);
        }
    }

    private static void firstCodeTooLarge() {
        for (int c : row(4, 5, 59, 60, 61, MAX)) {
            due("first feed(" + c + ")", new CodeSearcher().feed(c), NONE);
        }
    }

    private static void firstCodeTooSmall() {
        for (int c : row(-1, -4, MIN)) {
            due("first feed(" + c + ")", new CodeSearcher().feed(c), NONE);
        }
    }

    private static void firstCodeStandsForItsSymbol() {
        for (int c = 0; c < 4; c++) {
            CodeSearcher x = made(row(c));
            due("length() after feed(" + c + ")", x.length(), 1);
            due("symbol(0) after feed(" + c + ")", x.symbol(0), c);
        }
    }

    private static void firstCodeAddsNoWord() {
        for (int c = 0; c < 4; c++) {
            CodeSearcher x = made(row(c));
            due("words() after feed(" + c + ")", x.words(), 4);
            due("wordLength(4) after feed(" + c + ")", x.wordLength(4), NONE);
        }
    }

    private static void laterCodeAllowed() {
        due("second feed(0)", made(row(2)).feed(0), 1);
        due("second feed(3), that is n - 1", made(row(2)).feed(3), 1);
        due("second feed(4), that is n", made(row(2)).feed(4), 2);
        due("feed(0) with 8 words", made(ORDINARY).feed(0), 1);
        due("feed(7) with 8 words", made(ORDINARY).feed(7), 4);
        due("feed(8) with 8 words", made(ORDINARY).feed(8), 2);
        due("feed(58) with 59 words", made(singles(56)).feed(58), 2);
        due("feed(59) with 59 words", made(singles(56)).feed(59), 2);
    }

    private static void laterCodeTooLarge() {
        feedRefused(made(row(2)), 5, 6, 59, 60, MAX);
        feedRefused(made(ORDINARY), 9, 10, 59, 60, 61, MAX);
        feedRefused(made(singles(56)), 60, 61, MAX);
    }

    private static void laterCodeTooSmall() {
        feedRefused(made(row(2)), -1, -4, MIN);
        feedRefused(made(ORDINARY), -1, -8, MIN);
    }

    private static void codeBelowN() {
        due("text with n - 1", symbolsOfText(() -> made(joined(ORDINARY, 7))), "010101030103");
        due("text with 0", symbolsOfText(() -> made(joined(ORDINARY, 0))), "010101030");
        // The word 4 that n - 1 names is the one added last, not the one being made.
        due("text with n - 1 after two codes", symbolsOfText(() -> made(row(2, 1, 4))), "2121");
    }

    private static void codeEqualToN() {
        due("text of 2 4", symbolsOfText(() -> made(row(2, 4))), "222");
        due("text of 0 1 4 6", symbolsOfText(() -> made(row(0, 1, 4, 6))), "0101010");
        due("text of 0 1 4 6 7", symbolsOfText(() -> made(row(0, 1, 4, 6, 7))), "01010100100");
        due("feed(6) after 0 1 4", made(row(0, 1, 4)).feed(6), 3);
    }

    private static void wordAddedWithCodeBelowN() {
        due("words()", made(row(0, 1)).words(), 5);
        due("word 4 of 0 1", symbolsOfWord(() -> made(row(0, 1)), 4), "01");
        due("word 5 of 0 1 4", symbolsOfWord(() -> made(row(0, 1, 4)), 5), "10");
        due("word 6 of 0 1 4 3", symbolsOfWord(() -> made(row(0, 1, 4, 3)), 6), "013");
        due("word 5 of 0 0 0, that is there already", symbolsOfWord(() -> made(row(0, 0, 0)), 5), "00");
    }

    private static void wordAddedWithCodeN() {
        due("words()", made(row(2, 4)).words(), 5);
        due("word 4 of 2 4", symbolsOfWord(() -> made(row(2, 4)), 4), "22");
        due("word 6 of 0 1 4 6", symbolsOfWord(() -> made(row(0, 1, 4, 6)), 6), "010");
    }

    private static void lastWordIsAdded() {
        due("words() before", made(singles(56)).words(), 59);
        due("words() after a code below n", made(singles(57)).words(), 60);
        due("word 59", symbolsOfWord(() -> made(singles(57)), 59), "30");
        int[] byN = joined(singles(56), 59);
        due("words() after the code n", made(byN).words(), 60);
        due("word 59, by the code n", symbolsOfWord(() -> made(byN), 59), "33");
    }

    private static void noWordBeyond60() {
        CodeSearcher x = made(joined(fullDictionary(), 2, 4, 59, 0));
        due("words()", x.words(), 60);
        due("wordLength(60)", x.wordLength(60), NONE);
        due("codes()", x.codes(), 61);
        due("word 59", symbolsOfWord(() -> made(joined(fullDictionary(), 2, 4, 59, 0)), 59), "30");
        due("word 4", symbolsOfWord(() -> made(joined(fullDictionary(), 2, 4, 59, 0)), 4), "01");
        due("the text's end", symbolsOfText(() -> made(joined(fullDictionary(), 2, 4, 59, 0))).substring(57), "201300");
    }

    private static void codeNWhenFull() {
        feedRefused(made(fullDictionary()), 60, 61, MAX);
        feedRefused(made(joined(fullDictionary(), 0)), 60, 61, MAX);
        due("feed(59)", made(fullDictionary()).feed(59), 2);
        due("feed(0)", made(fullDictionary()).feed(0), 1);
    }

    private static void emptyTextWithNoCodes() {
        due("length()", new CodeSearcher().length(), 0);
        due("symbol(0)", new CodeSearcher().symbol(0), NONE);
    }

    private static void textOf250IsAllowed() {
        CodeSearcher x = made(roomFor19());
        due("feed(21), 19 symbols with room for 19", x.feed(21), 19);
        due("length()", x.length(), 250);
        x = made(singles(249));
        due("feed(1), one symbol with room for one", x.feed(1), 1);
        due("length()", x.length(), 250);
    }

    private static void textOf250IsAllowedWithCodeN() {
        // 210 + 1 + 19 symbols, and 20 with the word that is being made.
        CodeSearcher x = made(joined(growing(20), 0, 21));
        due("feed(25), 20 symbols with room for 20", x.feed(25), 20);
        due("length()", x.length(), 250);
    }

    private static void textOf250IsAllowedWithFullDictionary() {
        CodeSearcher x = made(joined(joined(fullDictionary(), 3), times(95, 4)));
        due("length()", x.length(), 248);
        due("feed(59), two symbols with room for two", x.feed(59), 2);
        due("length()", x.length(), 250);
    }

    private static void textOf251IsNotAllowed() {
        CodeSearcher x = made(roomFor19());
        due("feed(22), 20 symbols with room for 19", x.feed(22), NONE);
        due("feed(23), 21 symbols with room for 19", x.feed(23), NONE);
        due("length()", x.length(), 231);
        x = made(fullText());
        feedRefused(x, 0, 1, 2, 3, 4, 23, 24);
        due("length()", x.length(), 250);
        x = made(singles(249));
        due("feed(4), two symbols with room for one", x.feed(4), NONE);
        due("length()", x.length(), 249);
    }

    private static void textOf251IsNotAllowedWithCodeN() {
        // 210 + 1 + 1 + 19 symbols, and 20 with the word that is being made.
        CodeSearcher x = made(joined(growing(20), 0, 0, 21));
        due("feed(26), 20 symbols with room for 19", x.feed(26), NONE);
        due("length()", x.length(), 231);
        due("words()", x.words(), 26);
        x = made(roomFor19());
        due("feed(24), 22 symbols with room for 19", x.feed(24), NONE);
        due("words()", x.words(), 24);
        x = made(fullText());
        due("feed(25) into a full text", x.feed(25), NONE);
        due("words()", x.words(), 25);
    }

    private static void textOf251IsNotAllowedWithFullDictionary() {
        CodeSearcher x = made(joined(fullDictionary(), times(96, 4)));
        due("length()", x.length(), 249);
        due("feed(59), two symbols with room for one", x.feed(59), NONE);
        due("feed(0), one symbol with room for one", x.feed(0), 1);
        feedRefused(x, 0, 1, 2, 3, 4, 59, 60);
        due("length()", x.length(), 250);
    }

    private static void shorterCodeAfterOneThatIsTooLong() {
        CodeSearcher x = made(roomFor19());
        feedRefused(x, 24, 23, 22);
        due("feed(20), 18 symbols with room for 19", x.feed(20), 18);
        feedRefused(x, 25, 4);
        due("feed(1), one symbol with room for one", x.feed(1), 1);
        feedRefused(x, 26, 1);
        due("symbol(249)", x.symbol(249), 1);
    }

    private static void patternSizes() {
        CodeSearcher x = made(singles(9));
        due("pattern()", x.pattern(), 0);
        int[] counts = {3, 2, 2, 2, 2, 1};
        for (int size = 1; size <= 6; size++) {
            due("extend", x.extend((size - 1) % 4), true);
            due("pattern()", x.pattern(), size);
            due("count() with " + size, x.count(), counts[size - 1]);
        }
        due("extend(2) with six", x.extend(2), false);
        due("pattern()", x.pattern(), 6);
        due("count() with six", x.count(), 1);
    }

    private static void placesCountFrom0() {
        CodeSearcher x = made(row(2, 1, 0), 2);
        due("first()", x.first(), 0);
        due("last()", x.last(), 0);
        x = made(row(2, 1, 0), 0);
        due("first()", x.first(), 2);
        due("last()", x.last(), 2);
    }

    private static void occurrencesMayOverlap() {
        due("count() of 00 in 000", made(row(0, 0, 0), 0, 0).count(), 2);
        due("count() of 010 in 01010103", made(ORDINARY, 0, 1, 0).count(), 3);
        due("count() of 000000 in 0000000", made(row(0, 4, 5, 0), 0, 0, 0, 0, 0, 0).count(), 2);
        due("within() of 00 in 0 00 000", made(growing(3), 0, 0).within(), 3);
        due("endingIn(2) of 00 in 0 00 000", made(growing(3), 0, 0).endingIn(2), 3);
    }

    // Promise 1.

    private static void newHasNoCodes() {
        CodeSearcher x = new CodeSearcher();
        due("codes()", x.codes(), 0);
        due("length()", x.length(), 0);
        due("words()", x.words(), 4);
        due("symbol(0)", x.symbol(0), NONE);
        due("wordLength(4)", x.wordLength(4), NONE);
        due("endingIn(0)", x.endingIn(0), 0);
    }

    private static void newHasNoPattern() {
        CodeSearcher x = new CodeSearcher();
        due("pattern()", x.pattern(), 0);
        due("shorten()", x.shorten(), NONE);
        due("count()", x.count(), 0);
        due("first()", x.first(), NONE);
        due("last()", x.last(), NONE);
        due("tail()", x.tail(), 0);
        due("within()", x.within(), 0);
    }

    private static void newBesideAFullOne() {
        String want = all(CodeSearcher::new);
        made(fullTextAndDictionary(), 0, 1, 2, 3, 0, 1);
        due("an object made after a full one", all(CodeSearcher::new), want);
    }

    // Promise 2.

    private static void feedAnswersTheLeast() {
        due("first feed(3)", new CodeSearcher().feed(3), 1);
        due("later feed(3)", made(ORDINARY).feed(3), 1);
        due("feed(3) with a full dictionary", made(fullDictionary()).feed(3), 1);
    }

    private static void feedAnswersTheGreatest() {
        CodeSearcher x = made(growing(20));
        due("feed(23), the word being made", x.feed(23), 21);
        due("length()", x.length(), 231);
    }

    private static void feedNegative() {
        int[] negative = {-1, -2, -4, -60, -250, MIN, MIN + 1};
        feedRefused(new CodeSearcher(), negative);
        feedRefused(made(ORDINARY), negative);
        feedRefused(made(fullDictionary()), negative);
        feedRefused(made(fullText()), negative);
    }

    private static void feedNegativeChangesNothing() {
        changesNothingAnywhere(x -> feedRefused(x, -1, -4, MIN));
    }

    private static void feedTooLargeChangesNothing() {
        changesNothingAnywhere(x -> feedRefused(x, 61, 250, MAX));
        changesNothing(CodeSearcher::new, x -> feedRefused(x, 4, 5));
        changesNothing(() -> made(row(2), 2, 2), x -> feedRefused(x, 5, 6));
        changesNothing(() -> made(ORDINARY, 0, 1), x -> feedRefused(x, 9, 10));
        changesNothing(() -> made(singles(56), 0, 1), x -> feedRefused(x, 60));
    }

    private static void feedNWhenFullChangesNothing() {
        changesNothing(() -> made(fullDictionary(), 3, 0), x -> feedRefused(x, 60));
        changesNothing(() -> made(joined(fullDictionary(), 59), 3, 0), x -> feedRefused(x, 60));
    }

    private static void feedTooLongChangesNothing() {
        changesNothing(() -> made(roomFor19(), 0, 0), x -> feedRefused(x, 22, 23));
        changesNothing(() -> made(fullText(), 0, 0), x -> feedRefused(x, 0, 1, 2, 3, 4, 24));
        changesNothing(() -> made(fullTextAndDictionary(), 0, 1), x -> feedRefused(x, 0, 1, 2, 3, 4, 59));
        changesNothing(() -> made(joined(fullDictionary(), times(96, 4)), 0, 1), x -> feedRefused(x, 4, 59));
    }

    private static void feedNTooLongChangesNothing() {
        changesNothing(() -> made(roomFor19(), 0, 0), x -> feedRefused(x, 24));
        changesNothing(() -> made(fullText(), 0, 0), x -> feedRefused(x, 25));
    }

    // Promise 3.

    private static void restartWithNoCodes() {
        due("a new object restarted", all(then(CodeSearcher::new, CodeSearcher::restart)), all(CodeSearcher::new));
        CodeSearcher x = made(ORDINARY);
        x.restart();
        x.restart();
        due("codes() after restart twice", x.codes(), 0);
        due("words() after restart twice", x.words(), 4);
    }

    private static void restartForgets(int[] codes) {
        Supplier<CodeSearcher> restarted = then(() -> made(codes, 0, 1), CodeSearcher::restart);
        Supplier<CodeSearcher> fresh = () -> made(NO_CODES, 0, 1);
        due("restarted", all(restarted), all(fresh));
        due("symbol(0)", restarted.get().symbol(0), NONE);
        due("wordLength(4)", restarted.get().wordLength(4), NONE);
        due("wordSymbol(4, 0)", restarted.get().wordSymbol(4, 0), NONE);
        due("endingIn(0)", restarted.get().endingIn(0), 0);
        due("feed(4) as the first code", restarted.get().feed(4), NONE);
        due("restarted and fed", all(then(restarted, BoundaryTest::goOn)), all(then(fresh, BoundaryTest::goOn)));
    }

    private static void restartFull() {
        restartForgets(fullText());
        restartForgets(fullDictionary());
        restartForgets(fullTextAndDictionary());
    }

    private static void restartAndFillAgain() {
        CodeSearcher x = made(singles(250));
        x.restart();
        for (int i = 0; i < 250; i++) {
            due("feed " + i + " after restart", x.feed(3 - i % 4), 1);
        }
        due("feed(0) into the text that is full again", x.feed(0), NONE);
        due("codes()", x.codes(), 250);
        due("words()", x.words(), 60);
        due("length()", x.length(), 250);
        due("symbol(0)", x.symbol(0), 3);
        due("symbol(249)", x.symbol(249), 2);
        due("wordSymbol(59, 0)", x.wordSymbol(59, 0), 0);
        due("wordSymbol(59, 1)", x.wordSymbol(59, 1), 3);
    }

    private static void restartKeepsPattern(int... pattern) {
        CodeSearcher x = made(ORDINARY, pattern);
        x.restart();
        due("pattern()", x.pattern(), pattern.length);
        due("the pattern", symbolsOfPattern(x), symbolsOfPattern(made(NO_CODES, pattern)));
    }

    private static void restartPatternOfSix() {
        restartKeepsPattern(3, 2, 1, 0, 0, 2);
        CodeSearcher x = made(ORDINARY, 3, 2, 1, 0, 0, 2);
        x.restart();
        due("extend(0) with six", x.extend(0), false);
    }

    // Promise 4.

    private static void extendTooSmall() {
        extendRefused(new CodeSearcher(), -1, -2, -4, MIN);
        extendRefused(made(ORDINARY, 0, 1), -1, -2, -4, MIN);
    }

    private static void extendTooLarge() {
        extendRefused(new CodeSearcher(), 4, 5, 8, MAX);
        extendRefused(made(ORDINARY, 0, 1), 4, 5, 8, MAX);
    }

    private static void extendLeastAndGreatest() {
        CodeSearcher x = new CodeSearcher();
        due("extend(0)", x.extend(0), true);
        due("extend(3)", x.extend(3), true);
        due("the pattern", symbolsOfPattern(x), "03");
    }

    private static void extendFromNoneAtTheEnd() {
        CodeSearcher x = new CodeSearcher();
        due("extend(2) with none", x.extend(2), true);
        due("extend(1) with one", x.extend(1), true);
        due("the pattern", symbolsOfPattern(x), "21");
    }

    private static void extendTheSixth() {
        CodeSearcher x = made(NO_CODES, 0, 1, 2, 3, 0);
        due("extend(2) with five", x.extend(2), true);
        due("the pattern", symbolsOfPattern(x), "012302");
    }

    private static void extendWithSix() {
        for (int s = 0; s < 4; s++) {
            CodeSearcher x = made(NO_CODES, 0, 1, 2, 3, 0, 1);
            extendRefused(x, s, s);
            due("the pattern", symbolsOfPattern(x), "012301");
        }
    }

    private static void extendWithSixAgain() {
        CodeSearcher x = made(NO_CODES, 0, 1, 2, 3, 0, 1);
        due("shorten()", x.shorten(), 0);
        due("extend(3) with five again", x.extend(3), true);
        due("extend(3) with six again", x.extend(3), false);
        due("the pattern", symbolsOfPattern(x), "123013");
    }

    // Promise 5.

    private static void shortenWithNone() {
        CodeSearcher x = new CodeSearcher();
        due("shorten()", x.shorten(), NONE);
        due("shorten()", x.shorten(), NONE);
        due("shorten() with a text", made(ORDINARY).shorten(), NONE);
        x = made(ORDINARY, 3);
        due("shorten()", x.shorten(), 3);
        due("shorten() when the last one is away", x.shorten(), NONE);
    }

    private static void shortenWithOne() {
        for (int s = 0; s < 4; s++) {
            CodeSearcher x = made(NO_CODES, s);
            due("shorten()", x.shorten(), s);
            due("pattern()", x.pattern(), 0);
        }
    }

    private static void shortenWithSix() {
        CodeSearcher x = made(NO_CODES, 3, 1, 2, 0, 0, 2);
        due("shorten()", x.shorten(), 3);
        due("pattern()", x.pattern(), 5);
        due("the pattern", symbolsOfPattern(x), "12002");
    }

    // Promises 6 to 8.

    private static void patternIs0() {
        due("pattern() of a new object", new CodeSearcher().pattern(), 0);
        due("pattern() with a text", made(ORDINARY).pattern(), 0);
        CodeSearcher x = made(ORDINARY, 1);
        x.shorten();
        due("pattern() when the last one is away", x.pattern(), 0);
        x.shorten();
        due("pattern() after shorten() with none", x.pattern(), 0);
        x.extend(4);
        due("pattern() after a refused extend", x.pattern(), 0);
    }

    private static void patternIs6() {
        CodeSearcher x = made(NO_CODES, 0, 0, 0, 0, 0, 0);
        due("pattern()", x.pattern(), 6);
        x.extend(0);
        due("pattern() after a refused extend", x.pattern(), 6);
        x.shorten();
        due("pattern()", x.pattern(), 5);
    }

    private static void codesIs0() {
        CodeSearcher x = new CodeSearcher();
        due("codes()", x.codes(), 0);
        x.feed(4);
        x.feed(-1);
        due("codes() after refused codes", x.codes(), 0);
        x.feed(3);
        due("codes()", x.codes(), 1);
        x.restart();
        due("codes() after restart", x.codes(), 0);
    }

    private static void codesAtTheLimits() {
        due("codes() with words just full", made(fullDictionary()).codes(), 57);
        due("codes() one later", made(joined(fullDictionary(), 59)).codes(), 58);
        CodeSearcher x = made(singles(250));
        due("codes()", x.codes(), 250);
        x.feed(0);
        due("codes() after a refused code", x.codes(), 250);
    }

    private static void wordsFrom4To60() {
        CodeSearcher x = new CodeSearcher();
        due("words()", x.words(), 4);
        x.feed(0);
        due("words() after one code", x.words(), 4);
        for (int codes = 2; codes <= 70; codes++) {
            x.feed(codes % 4);
            due("words() after " + codes + " codes", x.words(), Math.min(codes + 3, 60));
        }
    }

    private static void wordsAfterRefusedCodes() {
        CodeSearcher x = made(row(0));
        feedRefused(x, -1, 5);
        due("words()", x.words(), 4);
        x = made(fullText());
        feedRefused(x, 0, 25);
        due("words()", x.words(), 25);
    }

    // Promises 9 and 10.

    private static void noSuchWord(CodeSearcher x, int... words) {
        for (int w : words) {
            due("wordLength(" + w + ")", x.wordLength(w), NONE);
        }
    }

    private static void wordLengthTooSmall() {
        noSuchWord(new CodeSearcher(), -1, -2, MIN);
        noSuchWord(made(ORDINARY), -1, -2, MIN);
    }

    private static void wordLengthTooLarge() {
        noSuchWord(new CodeSearcher(), 4, 5, 59, 60, MAX);
        noSuchWord(made(row(2)), 4, 5);
        noSuchWord(made(ORDINARY), 8, 9, 59, 60, 61, MAX);
        noSuchWord(made(fullDictionary()), 60, 61, MAX);
    }

    private static void wordLengthFirstAndLast() {
        due("wordLength(0)", new CodeSearcher().wordLength(0), 1);
        due("wordLength(3)", new CodeSearcher().wordLength(3), 1);
        due("wordLength(4)", made(ORDINARY).wordLength(4), 2);
        due("wordLength(7)", made(ORDINARY).wordLength(7), 4);
        due("wordLength(59)", made(fullDictionary()).wordLength(59), 2);
        due("wordLength(24), the longest there can be", made(joined(roomFor19(), 0)).wordLength(24), 22);
    }

    private static void wordSymbolNoSuchWord() {
        for (int k : row(0, 1, -1, MAX)) {
            for (int w : row(-1, MIN, 4, 5, 59, 60, MAX)) {
                due("wordSymbol(" + w + ", " + k + ")", new CodeSearcher().wordSymbol(w, k), NONE);
            }
            for (int w : row(-1, MIN, 8, 9, 59, 60, 61, MAX)) {
                due("wordSymbol(" + w + ", " + k + ")", made(ORDINARY).wordSymbol(w, k), NONE);
            }
            for (int w : row(-1, MIN, 60, 61, MAX)) {
                due("wordSymbol(" + w + ", " + k + ")", made(fullDictionary()).wordSymbol(w, k), NONE);
            }
        }
    }

    private static void wordSymbolTooSmall() {
        CodeSearcher x = made(ORDINARY);
        for (int w = 0; w < 8; w++) {
            for (int k : row(-1, -2, MIN)) {
                due("wordSymbol(" + w + ", " + k + ")", x.wordSymbol(w, k), NONE);
            }
        }
    }

    private static void wordSymbolTooLarge() {
        CodeSearcher x = made(ORDINARY);
        int[] sizes = {1, 1, 1, 1, 2, 2, 3, 4};
        for (int w = 0; w < 8; w++) {
            for (int k : row(sizes[w], sizes[w] + 1, 249, 250, MAX)) {
                due("wordSymbol(" + w + ", " + k + ")", x.wordSymbol(w, k), NONE);
            }
        }
        due("wordSymbol(24, 22) of the longest word", made(joined(roomFor19(), 0)).wordSymbol(24, 22), NONE);
        due("wordSymbol(59, 2)", made(fullDictionary()).wordSymbol(59, 2), NONE);
    }

    private static void wordSymbolFirstAndLast() {
        for (int w = 0; w < 4; w++) {
            due("wordSymbol(" + w + ", 0)", new CodeSearcher().wordSymbol(w, 0), w);
        }
        due("wordSymbol(7, 0)", made(ORDINARY).wordSymbol(7, 0), 0);
        due("wordSymbol(7, 3)", made(ORDINARY).wordSymbol(7, 3), 3);
        due("wordSymbol(24, 21) of the longest word", made(joined(roomFor19(), 1)).wordSymbol(24, 21), 1);
        due("wordSymbol(59, 0)", made(fullDictionary()).wordSymbol(59, 0), 3);
        due("wordSymbol(59, 1)", made(fullDictionary()).wordSymbol(59, 1), 0);
    }

    // Promises 11 and 12.

    private static void lengthIs0() {
        CodeSearcher x = new CodeSearcher();
        due("length()", x.length(), 0);
        feedRefused(x, 4, -1);
        due("length() after refused codes", x.length(), 0);
        x.feed(0);
        due("length()", x.length(), 1);
        x.restart();
        due("length() after restart", x.length(), 0);
    }

    private static void lengthIs250() {
        due("length() with 22 codes", made(fullText()).length(), 250);
        CodeSearcher x = made(fullTextAndDictionary());
        due("length() with 250 codes", x.length(), 250);
        x.feed(0);
        due("length() after a refused code", x.length(), 250);
    }

    private static void noPlace(CodeSearcher x, int... places) {
        for (int k : places) {
            due("symbol(" + k + ")", x.symbol(k), NONE);
        }
    }

    private static void symbolTooSmall() {
        noPlace(new CodeSearcher(), -1, -2, MIN);
        noPlace(made(ORDINARY), -1, -2, MIN);
        noPlace(made(fullText()), -1, -2, MIN);
    }

    private static void symbolTooLarge() {
        noPlace(new CodeSearcher(), 0, 1, 249, 250, MAX);
        noPlace(made(ORDINARY), 8, 9, 249, 250, MAX);
        noPlace(made(fullText()), 250, 251, MAX);
        CodeSearcher x = made(ORDINARY);
        x.restart();
        noPlace(x, 0, 1, 7);
        x.feed(2);
        noPlace(x, 1, 7);
    }

    private static void symbolFirstAndLast() {
        due("symbol(0)", made(joined(row(3), 0)).symbol(0), 3);
        due("symbol(7)", made(ORDINARY).symbol(7), 3);
        due("symbol(0) of a full text", made(fullTextAndDictionary()).symbol(0), 0);
        due("symbol(249) of a full text", made(fullTextAndDictionary()).symbol(249), 1);
    }

    // Promises 13 to 15.

    private static void countWithNoPattern() {
        due("count() of a new object", new CodeSearcher().count(), 0);
        due("count() with a text", made(ORDINARY).count(), 0);
        due("count() with a full text", made(fullText()).count(), 0);
        CodeSearcher x = made(ORDINARY, 0);
        x.shorten();
        due("count() when the pattern is away", x.count(), 0);
    }

    private static void countInATextTooShort() {
        due("count() in no text", made(NO_CODES, 0).count(), 0);
        due("count() of 00 in 0", made(row(0), 0, 0).count(), 0);
        due("count() of 000000 in 00000", made(times(5, 0), 0, 0, 0, 0, 0, 0).count(), 0);
        // What the array still holds beyond the text is no part of it.
        CodeSearcher x = made(row(0, 1), 0, 1);
        x.restart();
        x.feed(0);
        due("count() of 01 in 0, once 01", x.count(), 0);
    }

    private static void countAtBothEnds() {
        due("count() of the whole text", made(row(0, 1, 2), 0, 1, 2).count(), 1);
        due("count() at the beginning", made(ORDINARY, 0, 1, 0, 1, 0, 1).count(), 1);
        due("count() at the end", made(ORDINARY, 1, 0, 3).count(), 1);
    }

    private static void countInAFullText() {
        due("count() of 0", made(growing(21), 0).count(), 231);
        due("count() of 0, full", made(fullText(), 0).count(), 250);
        due("count() of 000000, full", made(fullText(), 0, 0, 0, 0, 0, 0).count(), 245);
    }

    private static void firstIsNone() {
        due("first() of a new object", new CodeSearcher().first(), NONE);
        due("first() with no pattern", made(ORDINARY).first(), NONE);
        due("first() in no text", made(NO_CODES, 0).first(), NONE);
        due("first() of 2 in 01010103", made(ORDINARY, 2).first(), NONE);
        due("first() of 00 in 0", made(row(0), 0, 0).first(), NONE);
        due("first() of 30, of which 3 is the text's end", made(ORDINARY, 3, 0).first(), NONE);
        CodeSearcher x = made(row(0, 1), 0, 1);
        x.restart();
        x.feed(0);
        due("first() of 01 in 0, once 01", x.first(), NONE);
    }

    private static void firstIsTheLeast() {
        due("first() of 0 in 01010103", made(ORDINARY, 0).first(), 0);
        due("first() of 10 in 01010103", made(ORDINARY, 1, 0).first(), 1);
        due("first() of 3 at the last place", made(ORDINARY, 3).first(), 7);
        due("first() of 03 at the end", made(ORDINARY, 0, 3).first(), 6);
        due("first() of the whole text", made(row(0, 1, 2), 0, 1, 2).first(), 0);
        due("first() in a full text", made(fullText(), 0).first(), 0);
        due("first() at place 249", made(joined(roomFor19(), 20, 1), 1).first(), 249);
        due("first() at place 244", made(joined(roomFor19(), 20, 1), 0, 0, 0, 0, 0, 1).first(), 244);
    }

    private static void lastIsNone() {
        due("last() of a new object", new CodeSearcher().last(), NONE);
        due("last() with no pattern", made(ORDINARY).last(), NONE);
        due("last() in no text", made(NO_CODES, 0).last(), NONE);
        due("last() of 2 in 01010103", made(ORDINARY, 2).last(), NONE);
        due("last() of 00 in 0", made(row(0), 0, 0).last(), NONE);
        due("last() of 30, of which 3 is the text's end", made(ORDINARY, 3, 0).last(), NONE);
        CodeSearcher x = made(row(0, 1), 0, 1);
        x.restart();
        x.feed(0);
        due("last() of 01 in 0, once 01", x.last(), NONE);
    }

    private static void lastIsTheGreatest() {
        due("last() of 0 in 01010103", made(ORDINARY, 0).last(), 6);
        due("last() of 010 in 01010103", made(ORDINARY, 0, 1, 0).last(), 4);
        due("last() of 3 at the last place", made(ORDINARY, 3).last(), 7);
        due("last() of 2 at place 0", made(row(2, 1, 1), 2).last(), 0);
        due("last() of the whole text", made(row(0, 1, 2), 0, 1, 2).last(), 0);
        due("last() of 0 in a full text", made(fullText(), 0).last(), 249);
        due("last() of 000000 in a full text", made(fullText(), 0, 0, 0, 0, 0, 0).last(), 244);
    }

    // Promise 16.

    private static void tailWithNoPattern() {
        due("tail() of a new object", new CodeSearcher().tail(), 0);
        due("tail() with a text", made(ORDINARY).tail(), 0);
        CodeSearcher x = made(ORDINARY, 3);
        x.shorten();
        due("tail() when the pattern is away", x.tail(), 0);
    }

    private static void tailIsTheWholePattern() {
        due("tail() of 3", made(ORDINARY, 3).tail(), 1);
        due("tail() of 103", made(ORDINARY, 1, 0, 3).tail(), 3);
        due("tail() of 010103", made(ORDINARY, 0, 1, 0, 1, 0, 3).tail(), 6);
        due("tail() of the whole text", made(row(0, 1, 2), 0, 1, 2).tail(), 3);
        due("tail() of 000000 in a full text", made(fullText(), 0, 0, 0, 0, 0, 0).tail(), 6);
    }

    private static void tailIsTheLongest() {
        due("tail() of 000001 in 0000", made(times(4, 0), 0, 0, 0, 0, 0, 1).tail(), 4);
        due("tail() of 0102 in 01010", made(row(0, 1, 4, 0), 0, 1, 0, 2).tail(), 3);
        due("tail() of 101", made(row(0, 1), 1, 0, 1).tail(), 1);
        due("tail() of 000001 in a full text", made(fullText(), 0, 0, 0, 0, 0, 1).tail(), 5);
    }

    private static void tailIsABeginning() {
        due("tail() of 23 in 01010103", made(ORDINARY, 2, 3).tail(), 0);
        due("tail() of 01 in 01010103", made(ORDINARY, 0, 1).tail(), 0);
        due("tail() of 2 in 01010103", made(ORDINARY, 2).tail(), 0);
    }

    private static void tailInATextTooShort() {
        due("tail() in no text", made(NO_CODES, 0, 0).tail(), 0);
        due("tail() of 00 in 0", made(row(0), 0, 0).tail(), 1);
        due("tail() of 012301 in 012", made(row(0, 1, 2), 0, 1, 2, 3, 0, 1).tail(), 3);
        CodeSearcher x = made(row(0, 1), 0, 1);
        x.restart();
        due("tail() in no text, once 01", x.tail(), 0);
    }

    // Promise 17. The codes of ORDINARY stand for 0, 1, 01, 010, 3.

    private static void withinReachesBothEnds() {
        due("within() of 3, a code of one symbol", made(ORDINARY, 3).within(), 1);
        due("within() of 010, a whole code", made(ORDINARY, 0, 1, 0).within(), 1);
        due("within() of 01, at a code's beginning", made(ORDINARY, 0, 1).within(), 2);
        due("within() of 10, at a code's end", made(ORDINARY, 1, 0).within(), 1);
        due("within() of the first code", made(row(2, 1), 2).within(), 1);
    }

    private static void withinOneSingleCode() {
        due("within() of 03, over two codes", made(ORDINARY, 0, 3).within(), 0);
        due("within() of 0103, one symbol too far", made(ORDINARY, 0, 1, 0, 3).within(), 0);
        due("within() of 1010, one symbol too early", made(ORDINARY, 1, 0, 1, 0).within(), 0);
        due("within() of 01 over codes of one symbol", made(row(0, 1), 0, 1).within(), 0);
        due("within() of 0123 over four codes", made(row(0, 1, 2, 3), 0, 1, 2, 3).within(), 0);
    }

    private static void withinCountsEachTime() {
        due("within() of 01 in 0, 1, 01, 01, 01", made(row(0, 1, 4, 4, 4), 0, 1).within(), 3);
        due("within() of 2 in 2, 2, 2", made(row(2, 2, 2), 2).within(), 3);
        due("within() of 3 in 3, 1, 3", made(row(3, 1, 3), 3).within(), 2);
        due("within() of 30 with 60 words", made(joined(fullDictionary(), 59, 59, 7), 3, 0).within(), 3);
    }

    private static void withinCountsEachInACode() {
        due("within() of 00 in 0, 00, 000, 0000", made(growing(4), 0, 0).within(), 6);
        due("within() of 0 in 0, 1, 01, 010, 3", made(ORDINARY, 0).within(), 4);
    }

    private static void withinNothing() {
        due("within() with no codes", made(NO_CODES, 0).within(), 0);
        due("within() of 00 in 0", made(row(0), 0, 0).within(), 0);
        due("within() of 2 in 01010103", made(ORDINARY, 2).within(), 0);
    }

    /** By the terms an occurrence is where the pattern stands: with no pattern there is none. */
    private static void withinWithNoPattern() {
        due("within() of a new object", new CodeSearcher().within(), 0);
        due("within() with a text", made(ORDINARY).within(), 0);
        due("within() with a full text", made(fullText()).within(), 0);
        CodeSearcher x = made(ORDINARY, 0);
        due("within() of 0", x.within(), 4);
        x.shorten();
        due("within() when the pattern is away", x.within(), 0);
    }

    private static void withinAFullText() {
        due("within() of 0, full", made(fullText(), 0).within(), 250);
        // Codes of 1 .. 21 and of 19 symbols: a code of m symbols has m - 5 of them.
        due("within() of 000000, full", made(fullText(), 0, 0, 0, 0, 0, 0).within(), 136 + 14);
        due("within() of 0 with 250 codes", made(fullTextAndDictionary(), 0).within(), 63);
    }

    // Promise 18.

    private static void endingInTooSmall() {
        for (int k : row(-1, -2, MIN)) {
            due("endingIn(" + k + ")", made(ORDINARY, 0).endingIn(k), 0);
            due("endingIn(" + k + ") with no codes", made(NO_CODES, 0).endingIn(k), 0);
            due("endingIn(" + k + ") of a new object", new CodeSearcher().endingIn(k), 0);
        }
    }

    private static void endingInTooLarge() {
        for (int k : row(5, 6, 7, 249, 250, MAX)) {
            due("endingIn(" + k + ")", made(ORDINARY, 3).endingIn(k), 0);
            due("endingIn(" + k + ") with no codes", made(NO_CODES, 3).endingIn(k), 0);
        }
        due("endingIn(0) with no codes", made(NO_CODES, 3).endingIn(0), 0);
        due("endingIn(250) with 250 codes", made(fullTextAndDictionary(), 1).endingIn(250), 0);
        CodeSearcher x = made(row(0, 0, 0), 0);
        x.restart();
        x.feed(0);
        due("endingIn(1) of one code, once three", x.endingIn(1), 0);
        due("endingIn(2) of one code, once three", x.endingIn(2), 0);
    }

    private static void endingInFirstAndLast() {
        due("endingIn(0)", made(ORDINARY, 0).endingIn(0), 1);
        due("endingIn(4), that is codes() - 1", made(ORDINARY, 3).endingIn(4), 1);
        due("endingIn(0) of the only code", made(row(2), 2).endingIn(0), 1);
        due("endingIn(0) with 250 codes", made(fullTextAndDictionary(), 0).endingIn(0), 1);
        due("endingIn(249) with 250 codes", made(fullTextAndDictionary(), 0, 1).endingIn(249), 1);
        due("endingIn(21) of a full text", made(fullText(), 0, 0, 0, 0, 0, 0).endingIn(21), 19);
    }

    private static void endingInHasTheLastSymbolThere() {
        // 0 | 1 | 0 1 | 0 1 0 | 3
        due("endingIn(2) of 10, at the code's first symbol", made(ORDINARY, 1, 0).endingIn(2), 1);
        due("endingIn(2) of 101, at the code's last symbol", made(ORDINARY, 1, 0, 1).endingIn(2), 1);
        due("endingIn(3) of 010, at the first and the last", made(ORDINARY, 0, 1, 0).endingIn(3), 2);
        due("endingIn(4) of 010103, begun in code 2", made(ORDINARY, 0, 1, 0, 1, 0, 3).endingIn(4), 1);
    }

    private static void endingInIsNotBeginningIn() {
        due("endingIn(3) of 03, that ends one later", made(ORDINARY, 0, 3).endingIn(3), 0);
        due("endingIn(0) of 01, that ends one later", made(ORDINARY, 0, 1).endingIn(0), 0);
        due("endingIn(3) of 101, of which one ended before", made(ORDINARY, 1, 0, 1).endingIn(3), 1);
        due("endingIn(4) of 1, that ended before", made(ORDINARY, 1).endingIn(4), 0);
    }

    private static void endingInBeforeThePatternFits() {
        due("endingIn(0) of 00 in 0, 0", made(row(0, 0), 0, 0).endingIn(0), 0);
        due("endingIn(1) of 00 in 0, 0", made(row(0, 0), 0, 0).endingIn(1), 1);
        due("endingIn(2) of 000000 in 0, 00, 000", made(growing(3), 0, 0, 0, 0, 0, 0).endingIn(2), 1);
        due("endingIn(1) of 000000 in 0, 00, 000", made(growing(3), 0, 0, 0, 0, 0, 0).endingIn(1), 0);
    }

    /** By the terms an occurrence is where the pattern stands: with no pattern there is none. */
    private static void endingInWithNoPattern() {
        for (int k = -1; k <= 5; k++) {
            due("endingIn(" + k + ")", made(ORDINARY).endingIn(k), 0);
        }
        due("endingIn(0) of a new object", new CodeSearcher().endingIn(0), 0);
        due("endingIn(20) with a full text", made(fullText()).endingIn(20), 0);
        CodeSearcher x = made(ORDINARY, 0);
        due("endingIn(3) of 0", x.endingIn(3), 2);
        x.shorten();
        due("endingIn(3) when the pattern is away", x.endingIn(3), 0);
    }

    // Promise 19.

    private static void refusedExtendChangesNothing() {
        changesNothingAnywhere(x -> extendRefused(x, -1, MIN, 4, MAX));
    }

    private static void refusedExtendWithSixChangesNothing() {
        changesNothing(() -> made(ORDINARY, 0, 1, 0, 1, 0, 3), x -> extendRefused(x, 0, 1, 2, 3));
        changesNothing(() -> made(fullText(), 0, 0, 0, 0, 0, 0), x -> extendRefused(x, 0, 1, 2, 3));
    }

    private static void refusedShortenChangesNothing() {
        changesNothing(CodeSearcher::new, CodeSearcher::shorten);
        changesNothing(() -> made(ORDINARY), CodeSearcher::shorten);
        changesNothing(() -> made(fullText()), CodeSearcher::shorten);
        changesNothing(() -> made(fullDictionary()), CodeSearcher::shorten);
    }

    private static void refusedWordLengthChangesNothing() {
        changesNothingAnywhere(x -> noSuchWord(x, -1, MIN, 60, MAX));
    }

    private static void refusedWordSymbolChangesNothing() {
        changesNothingAnywhere(x -> {
            due("wordSymbol(-1, 0)", x.wordSymbol(-1, 0), NONE);
            due("wordSymbol(60, 0)", x.wordSymbol(60, 0), NONE);
            due("wordSymbol(0, -1)", x.wordSymbol(0, -1), NONE);
            due("wordSymbol(0, 1)", x.wordSymbol(0, 1), NONE);
        });
    }

    private static void refusedSymbolChangesNothing() {
        changesNothingAnywhere(x -> noPlace(x, -1, MIN, 250, MAX));
    }

    private static void noneFoundChangesNothing() {
        changesNothing(() -> made(ORDINARY, 2, 2), x -> {
            due("first()", x.first(), NONE);
            due("last()", x.last(), NONE);
        });
        changesNothing(() -> made(ORDINARY), x -> {
            due("first()", x.first(), NONE);
            due("last()", x.last(), NONE);
        });
    }

    private static void whatItIs() {
        test("What it is: used for at most 512 calls: call 512, a feed", BoundaryTest::lastCallIsAFeed);
        test("What it is: used for at most 512 calls: call 512, after refused ones", BoundaryTest::lastCallIsACount);
        test("What it is: used for at most 512 calls: many restarts", BoundaryTest::manyRestarts);
        test("What it is: used for at most 512 calls: a pattern that goes round", BoundaryTest::patternGoesRound);
    }

    private static void termsOfCodes() {
        test("Terms: Symbols are 0 .. 3", BoundaryTest::symbolsFrom0To3);
        test("Terms: at first the words 0 .. 3 are the four single symbols", BoundaryTest::wordsAtFirst);
        test("Terms: The first code must be 0 .. 3: allowed", BoundaryTest::firstCodeAllowed);
        test("Terms: The first code must be 0 .. 3: too large", BoundaryTest::firstCodeTooLarge);
        test("Terms: The first code must be 0 .. 3: too small", BoundaryTest::firstCodeTooSmall);
        test("Terms: it stands for its symbol", BoundaryTest::firstCodeStandsForItsSymbol);
        test("Terms: and adds no word", BoundaryTest::firstCodeAddsNoWord);
        test("Terms: Every later code c may be 0 .. n: allowed", BoundaryTest::laterCodeAllowed);
        test("Terms: Every later code c may be 0 .. n: too large", BoundaryTest::laterCodeTooLarge);
        test("Terms: Every later code c may be 0 .. n: too small", BoundaryTest::laterCodeTooSmall);
        test("Terms: for c below n it stands for word c", BoundaryTest::codeBelowN);
        test("Terms: for c = n it stands for the word of the code before it ..", BoundaryTest::codeEqualToN);
        test("Terms: In both cases .. becomes word n: c below n", BoundaryTest::wordAddedWithCodeBelowN);
        test("Terms: In both cases .. becomes word n: c = n", BoundaryTest::wordAddedWithCodeN);
        test("Terms: unless the dictionary has 60 words already: it has 59", BoundaryTest::lastWordIsAdded);
        test("Terms: then no word is added", BoundaryTest::noWordBeyond60);
        test("Terms: and c = n is not allowed", BoundaryTest::codeNWhenFull);
    }

    private static void termsOfTextAndPattern() {
        test("Terms: The TEXT is what the codes so far stand for: no codes", BoundaryTest::emptyTextWithNoCodes);
        test("Terms: It has at most 250 symbols: just 250", BoundaryTest::textOf250IsAllowed);
        test("Terms: It has at most 250 symbols: just 250, by c = n", BoundaryTest::textOf250IsAllowedWithCodeN);
        test("Terms: It has at most 250 symbols: just 250, with 60 words", BoundaryTest::textOf250IsAllowedWithFullDictionary);
        test("Terms: a code that would make it longer is not allowed", BoundaryTest::textOf251IsNotAllowed);
        test("Terms: a code that would make it longer is not allowed: c = n", BoundaryTest::textOf251IsNotAllowedWithCodeN);
        test("Terms: a code that would make it longer is not allowed: 60 words", BoundaryTest::textOf251IsNotAllowedWithFullDictionary);
        test("Terms: a code that would make it longer is not allowed: a shorter one is", BoundaryTest::shorterCodeAfterOneThatIsTooLong);
        test("Terms: There is a PATTERN of 1 to 6 symbols, or none", BoundaryTest::patternSizes);
        test("Terms: a place p (from 0)", BoundaryTest::placesCountFrom0);
        test("Terms: occurrences may overlap", BoundaryTest::occurrencesMayOverlap);
    }

    private static void promises1To3() {
        test("1: No codes", BoundaryTest::newHasNoCodes);
        test("1: no pattern", BoundaryTest::newHasNoPattern);
        test("1: No codes, no pattern: beside a full object", BoundaryTest::newBesideAFullOne);
        test("2: answers the number of symbols that it stands for: the least", BoundaryTest::feedAnswersTheLeast);
        test("2: answers the number of symbols that it stands for: the greatest", BoundaryTest::feedAnswersTheGreatest);
        test("2: NONE (also for a negative one)", BoundaryTest::feedNegative);
        test("2: NONE, changing nothing (also for a negative one)", BoundaryTest::feedNegativeChangesNothing);
        test("2: NONE, changing nothing, when it is not allowed: too large", BoundaryTest::feedTooLargeChangesNothing);
        test("2: NONE, changing nothing, when it is not allowed: c = n with 60 words", BoundaryTest::feedNWhenFullChangesNothing);
        test("2: NONE, changing nothing, when it is not allowed: text too long", BoundaryTest::feedTooLongChangesNothing);
        test("2: NONE, changing nothing, when it is not allowed: text too long by c = n", BoundaryTest::feedNTooLongChangesNothing);
        test("3: Forgets all codes: none", BoundaryTest::restartWithNoCodes);
        test("3: Forgets all codes: some", () -> restartForgets(ORDINARY));
        test("3: Forgets all codes: full", BoundaryTest::restartFull);
        test("3: Forgets all codes: full, and full again", BoundaryTest::restartAndFillAgain);
        test("3: the pattern stays: none", () -> restartKeepsPattern());
        test("3: the pattern stays: one symbol", () -> restartKeepsPattern(3));
        test("3: the pattern stays: six symbols", BoundaryTest::restartPatternOfSix);
    }

    private static void promises4To8() {
        test("4: Adds a symbol at the end of the pattern: from none", BoundaryTest::extendFromNoneAtTheEnd);
        test("4: Adds a symbol at the end of the pattern: the sixth", BoundaryTest::extendTheSixth);
        test("4: false when s is not 0 .. 3: too small", BoundaryTest::extendTooSmall);
        test("4: false when s is not 0 .. 3: too large", BoundaryTest::extendTooLarge);
        test("4: false when s is not 0 .. 3: true for 0 and 3", BoundaryTest::extendLeastAndGreatest);
        test("4: false, changing nothing, when the pattern has six", BoundaryTest::extendWithSix);
        test("4: false when the pattern has six: once more", BoundaryTest::extendWithSixAgain);
        test("5: NONE when there is no pattern", BoundaryTest::shortenWithNone);
        test("5: Takes the first symbol of the pattern away: the only one", BoundaryTest::shortenWithOne);
        test("5: Takes the first symbol of the pattern away: of six", BoundaryTest::shortenWithSix);
        test("6: 0 when there is none", BoundaryTest::patternIs0);
        test("6: The number of symbols of the pattern: full", BoundaryTest::patternIs6);
        test("7: The number of codes taken: none", BoundaryTest::codesIs0);
        test("7: The number of codes taken: full", BoundaryTest::codesAtTheLimits);
        test("8: The number of words in the dictionary: 4 to 60", BoundaryTest::wordsFrom4To60);
        test("8: The number of words in the dictionary: refused codes", BoundaryTest::wordsAfterRefusedCodes);
    }

    private static void promises9To12() {
        test("9: NONE when there is no such word: too small", BoundaryTest::wordLengthTooSmall);
        test("9: NONE when there is no such word: too large", BoundaryTest::wordLengthTooLarge);
        test("9: The number of symbols of word w: first and last, the longest", BoundaryTest::wordLengthFirstAndLast);
        test("10: NONE when there is no such word", BoundaryTest::wordSymbolNoSuchWord);
        test("10: NONE when k is not a place in it: too small", BoundaryTest::wordSymbolTooSmall);
        test("10: NONE when k is not a place in it: too large", BoundaryTest::wordSymbolTooLarge);
        test("10: Symbol k (from 0) of word w: first and last", BoundaryTest::wordSymbolFirstAndLast);
        test("11: The number of symbols of the text: none", BoundaryTest::lengthIs0);
        test("11: The number of symbols of the text: full", BoundaryTest::lengthIs250);
        test("12: NONE when k is not a place in it: too small", BoundaryTest::symbolTooSmall);
        test("12: NONE when k is not a place in it: too large", BoundaryTest::symbolTooLarge);
        test("12: Symbol k (from 0) of the text: first and last", BoundaryTest::symbolFirstAndLast);
    }

    private static void promises13To16() {
        test("13: 0 when there is no pattern", BoundaryTest::countWithNoPattern);
        test("13: The number of occurrences in the text: text too short", BoundaryTest::countInATextTooShort);
        test("13: The number of occurrences in the text: at both ends", BoundaryTest::countAtBothEnds);
        test("13: The number of occurrences in the text: full", BoundaryTest::countInAFullText);
        test("14: NONE when there is none", BoundaryTest::firstIsNone);
        test("14: The least occurrence", BoundaryTest::firstIsTheLeast);
        test("15: NONE when there is none", BoundaryTest::lastIsNone);
        test("15: The greatest occurrence", BoundaryTest::lastIsTheGreatest);
        test("16: 0 when there is no pattern", BoundaryTest::tailWithNoPattern);
        test("16: the whole pattern counts too", BoundaryTest::tailIsTheWholePattern);
        test("16: the longest beginning that the text ends with: the longest", BoundaryTest::tailIsTheLongest);
        test("16: the longest beginning that the text ends with: none", BoundaryTest::tailIsABeginning);
        test("16: the longest beginning that the text ends with: text too short", BoundaryTest::tailInATextTooShort);
    }

    private static void promises17To19() {
        test("17: lie within the symbols of one single code: up to its ends", BoundaryTest::withinReachesBothEnds);
        test("17: lie within the symbols of one single code: and not beyond", BoundaryTest::withinOneSingleCode);
        test("17: taken several times: each time counts", BoundaryTest::withinCountsEachTime);
        test("17: The number of occurrences: several in one code", BoundaryTest::withinCountsEachInACode);
        test("17: The number of occurrences: none", BoundaryTest::withinNothing);
        test("17: The number of occurrences: no pattern", BoundaryTest::withinWithNoPattern);
        test("17: The number of occurrences: full", BoundaryTest::withinAFullText);
        test("18: 0 when k is not from 0 to codes() - 1: too small", BoundaryTest::endingInTooSmall);
        test("18: 0 when k is not from 0 to codes() - 1: too large", BoundaryTest::endingInTooLarge);
        test("18: code number k (from 0): first and last", BoundaryTest::endingInFirstAndLast);
        test("18: have their last symbol there", BoundaryTest::endingInHasTheLastSymbolThere);
        test("18: have their last symbol there: not elsewhere", BoundaryTest::endingInIsNotBeginningIn);
        test("18: How many occurrences end: before the pattern fits", BoundaryTest::endingInBeforeThePatternFits);
        test("18: How many occurrences end: no pattern", BoundaryTest::endingInWithNoPattern);
        test("19: a call that is refused changes nothing: extend", BoundaryTest::refusedExtendChangesNothing);
        test("19: a call that is refused changes nothing: extend with six", BoundaryTest::refusedExtendWithSixChangesNothing);
        test("19: a call that is refused changes nothing: shorten", BoundaryTest::refusedShortenChangesNothing);
        test("19: a call that is refused changes nothing: wordLength", BoundaryTest::refusedWordLengthChangesNothing);
        test("19: a call that is refused changes nothing: wordSymbol", BoundaryTest::refusedWordSymbolChangesNothing);
        test("19: a call that is refused changes nothing: symbol", BoundaryTest::refusedSymbolChangesNothing);
        test("19: a call that is refused changes nothing: first and last", BoundaryTest::noneFoundChangesNothing);
    }

    public static void main(String[] args) {
        whatItIs();
        termsOfCodes();
        termsOfTextAndPattern();
        promises1To3();
        promises4To8();
        promises9To12();
        promises13To16();
        promises17To19();
        System.out.println(wrong == 0
                ? "all " + told.size() + " boundary cases hold"
                : wrong + " answers are not as due");
        if (wrong != 0) {
            System.exit(1);
        }
    }
}
