import java.util.function.Supplier;

/**
 * One method or more for each promise of the document: ordinary inputs, the named edges, wrong
 * inputs. No object is called more than 512 times, since what it answers then is free.
 */
public final class PromiseTest {
    private static final int[] WRONG = {Integer.MIN_VALUE, -1000, -2, -1};
    private static int wrong = 0;

    private static void due(String call, long got, long want) {
        if (got != want) {
            wrong++;
            System.out.println(call + " answered " + got + ", due is " + want);
        }
    }

    private static void due(String call, boolean got, boolean want) {
        due(call, got ? 1 : 0, want ? 1 : 0);
    }

    private static void due(String call, String got, String want) {
        if (!got.equals(want)) {
            wrong++;
            System.out.println(call + " answered " + got + ", due is " + want);
        }
    }

    private static CodeSearcher fed(int... codes) {
        CodeSearcher x = new CodeSearcher();
        for (int c : codes) {
            if (x.feed(c) < 1) {
                wrong++;
                System.out.println("feed(" + c + ") was refused while a test was set up");
            }
        }
        return x;
    }

    private static void seek(CodeSearcher x, int... symbols) {
        for (int s : symbols) {
            due("extend(" + s + ")", x.extend(s), true);
        }
    }

    /** A new object with codes and pattern, each told as a row of digits. */
    private static CodeSearcher search(String codes, String pattern) {
        CodeSearcher x = fed(digits(codes));
        seek(x, digits(pattern));
        return x;
    }

    private static int[] digits(String row) {
        return row.chars().map(digit -> digit - '0').toArray();
    }

    private static String text(CodeSearcher x) {
        StringBuilder out = new StringBuilder();
        int size = x.length();
        for (int k = 0; k < size; k++) {
            out.append(x.symbol(k));
        }
        return out.toString();
    }

    private static String word(CodeSearcher x, int w) {
        StringBuilder out = new StringBuilder();
        int size = x.wordLength(w);
        for (int k = 0; k < size; k++) {
            out.append(x.wordSymbol(w, k));
        }
        return out.toString();
    }

    private static String words(CodeSearcher x) {
        StringBuilder out = new StringBuilder();
        int size = x.words();
        for (int w = 0; w < size; w++) {
            out.append(word(x, w)).append(' ');
        }
        return out.toString();
    }

    private static String answers(CodeSearcher x) {
        StringBuilder out = new StringBuilder();
        int size = x.codes();
        out.append(size).append(" codes, ending ");
        for (int k = 0; k < size; k++) {
            out.append(x.endingIn(k)).append(' ');
        }
        out.append("count ").append(x.count()).append(" first ").append(x.first());
        out.append(" last ").append(x.last()).append(" tail ").append(x.tail());
        out.append(" within ").append(x.within()).append(" pattern ");
        int left = x.pattern();
        for (int i = 0; i < left; i++) {
            out.append(x.shorten());
        }
        return out.toString();
    }

    /** All that an object tells of itself; each part is asked of a new one, for the 512 calls. */
    private static String state(Supplier<CodeSearcher> made) {
        return text(made.get()) + " / " + words(made.get()) + " / " + answers(made.get());
    }

    private static void promise1NewObject() {
        CodeSearcher x = new CodeSearcher();
        due("1: codes()", x.codes(), 0);
        due("1: length()", x.length(), 0);
        due("1: pattern()", x.pattern(), 0);
        due("1: words()", x.words(), 4);
        for (int w = 0; w < 4; w++) {
            due("1: word " + w, word(x, w), "" + w);
        }
        due("1: shorten()", x.shorten(), CodeSearcher.NONE);
        due("1: NONE", CodeSearcher.NONE, -1);
        CodeSearcher other = fed(3, 4);
        seek(other, 3);
        due("1: codes() beside another object", x.codes(), 0);
        due("1: pattern() beside another object", x.pattern(), 0);
    }

    private static void promise2FirstCode() {
        for (int c = 0; c < 4; c++) {
            CodeSearcher x = new CodeSearcher();
            due("2: first feed(" + c + ")", x.feed(c), 1);
            due("2: text", text(x), "" + c);
            due("2: words()", x.words(), 4);
        }
        CodeSearcher x = new CodeSearcher();
        due("2: first feed(4)", x.feed(4), -1);
        due("2: first feed(5)", x.feed(5), -1);
        due("2: first feed(MAX)", x.feed(Integer.MAX_VALUE), -1);
        for (int c : WRONG) {
            due("2: first feed(" + c + ")", x.feed(c), -1);
        }
        due("2: codes() after refusals", x.codes(), 0);
    }

    private static void promise2LaterCodes() {
        CodeSearcher x = fed(0, 1);
        due("2: word 4", word(x, 4), "01");
        due("2: feed(6)", x.feed(6), -1);
        due("2: feed(4)", x.feed(4), 2);
        due("2: word 5", word(x, 5), "10");
        due("2: feed(6), the word being made", x.feed(6), 3);
        due("2: word 6", word(x, 6), "010");
        due("2: text", text(x), "0101010");
        due("2: feed(8)", x.feed(8), -1);
        due("2: feed(MAX)", x.feed(Integer.MAX_VALUE), -1);
        for (int c : WRONG) {
            due("2: feed(" + c + ")", x.feed(c), -1);
        }
        due("2: feed(3)", x.feed(3), 1);
        due("2: word 7", word(x, 7), "0103");
        due("2: words()", x.words(), 8);
        due("2: text", text(x), "01010103");
        // A word may be made that the dictionary has already.
        x = fed(0, 0, 0);
        due("2: word 4", word(x, 4), "00");
        due("2: word 5", word(x, 5), "00");
    }

    private static void promise2FullDictionary() {
        CodeSearcher x = new CodeSearcher();
        for (int i = 0; i < 56; i++) {
            due("2: feed while it fills", x.feed(i % 4), 1);
        }
        due("2: words() one before full", x.words(), 59);
        due("2: feed(60) at 59 words", x.feed(60), -1);
        due("2: feed(59) at 59 words", x.feed(59), 2);
        due("2: word 59", word(x, 59), "33");
        due("2: words() when full", x.words(), 60);
        due("2: feed(60) when full", x.feed(60), -1);
        due("2: feed(61) when full", x.feed(61), -1);
        due("2: feed(59) when full", x.feed(59), 2);
        due("2: feed(5) when full", x.feed(5), 2);
        due("2: feed(0) when full", x.feed(0), 1);
        due("2: words() stay", x.words(), 60);
        due("2: word 59 stays", word(x, 59), "33");
        due("2: codes() go on", x.codes(), 60);
        due("2: wordLength(60)", x.wordLength(60), -1);
        due("2: text's end", text(x).substring(56), "3333120");
    }

    private static CodeSearcher zeros(int codes) {
        CodeSearcher x = fed(0);
        for (int i = 1; i < codes; i++) {
            due("zeros: feed(" + (i + 3) + ")", x.feed(i + 3), i + 1);
        }
        return x;
    }

    private static CodeSearcher fullText() {
        CodeSearcher x = zeros(21);
        due("2: feed(21), 19 symbols with room for 19", x.feed(21), 19);
        return x;
    }

    private static CodeSearcher afterRefusals(CodeSearcher x, int... codes) {
        for (int c : codes) {
            due("2: feed(" + c + ") beyond the longest text", x.feed(c), -1);
        }
        return x;
    }

    private static void promise2LongestText() {
        due("2: length()", zeros(21).length(), 231);
        due("2: state after 22 and 20 symbols with room for 19",
                state(() -> afterRefusals(zeros(21), 24, 22)), state(() -> zeros(21)));
        due("2: length()", fullText().length(), 250);
        due("2: words()", fullText().words(), 25);
        due("2: state after refusals when the text is full",
                state(() -> afterRefusals(fullText(), 0, 1, 2, 3, 4, 5, 23, 24, 25, 26)), state(() -> fullText()));
        CodeSearcher x;
        // The word being made may just fit too: 210 + 1 + 19 + 20 = 250.
        x = zeros(20);
        due("2: feed(0)", x.feed(0), 1);
        due("2: feed(21)", x.feed(21), 19);
        due("2: feed(25), the word being made, that fits", x.feed(25), 20);
        due("2: length()", x.length(), 250);
        // One symbol more before it, and it does not fit.
        x = zeros(20);
        due("2: feed(0)", x.feed(0), 1);
        due("2: feed(0)", x.feed(0), 1);
        due("2: feed(21)", x.feed(21), 19);
        due("2: feed(26), the word being made, that does not fit", x.feed(26), -1);
        due("2: words()", x.words(), 26);
        due("2: length()", x.length(), 231);
    }

    private static void promise2MostCodes() {
        CodeSearcher x = new CodeSearcher();
        for (int i = 0; i < 250; i++) {
            due("2: feed " + i, x.feed(i % 3), 1);
        }
        due("2: codes()", x.codes(), 250);
        due("2: length()", x.length(), 250);
        due("2: words()", x.words(), 60);
        due("2: feed(0) beyond", x.feed(0), -1);
        seek(x, 0);
        due("2: endingIn(249)", x.endingIn(249), 1);
        due("2: endingIn(250)", x.endingIn(250), 0);
    }

    private static void promise3Restart() {
        CodeSearcher x = fed(0, 4, 5, 1);
        seek(x, 0, 1);
        due("3: count() before", x.count(), 1);
        x.restart();
        due("3: codes()", x.codes(), 0);
        due("3: length()", x.length(), 0);
        due("3: words()", x.words(), 4);
        due("3: wordLength(4)", x.wordLength(4), -1);
        due("3: symbol(0)", x.symbol(0), -1);
        due("3: pattern()", x.pattern(), 2);
        due("3: count()", x.count(), 0);
        due("3: first()", x.first(), -1);
        due("3: last()", x.last(), -1);
        due("3: tail()", x.tail(), 0);
        due("3: within()", x.within(), 0);
        due("3: endingIn(0)", x.endingIn(0), 0);
        due("3: feed(4) as first code", x.feed(4), -1);
        due("3: feed(0)", x.feed(0), 1);
        due("3: words() after the first code", x.words(), 4);
        due("3: feed(1)", x.feed(1), 1);
        due("3: word 4", word(x, 4), "01");
        due("3: count()", x.count(), 1);
        due("3: shorten()", x.shorten(), 0);
        due("3: shorten()", x.shorten(), 1);
        x.restart();
        x.restart();
        due("3: codes() after restart twice", x.codes(), 0);
    }

    private static void promise4Extend() {
        CodeSearcher x = new CodeSearcher();
        for (int s : WRONG) {
            due("4: extend(" + s + ")", x.extend(s), false);
        }
        due("4: extend(4)", x.extend(4), false);
        due("4: extend(MAX)", x.extend(Integer.MAX_VALUE), false);
        due("4: pattern()", x.pattern(), 0);
        int[] symbols = {2, 0, 3, 1, 1, 0};
        for (int s : symbols) {
            due("4: extend(" + s + ")", x.extend(s), true);
        }
        for (int s = -1; s < 5; s++) {
            due("4: extend(" + s + ") with six", x.extend(s), false);
        }
        due("4: pattern()", x.pattern(), 6);
        due("4: shorten()", x.shorten(), 2);
        due("4: extend(3) when there is room again", x.extend(3), true);
        int[] left = {0, 3, 1, 1, 0, 3};
        for (int s : left) {
            due("4: shorten()", x.shorten(), s);
        }
        due("4: pattern()", x.pattern(), 0);
    }

    private static void promise5Shorten() {
        CodeSearcher x = new CodeSearcher();
        due("5: shorten() with none", x.shorten(), -1);
        seek(x, 3, 1, 2);
        due("5: shorten()", x.shorten(), 3);
        due("5: pattern()", x.pattern(), 2);
        x.feed(1);
        x.feed(2);
        due("5: count() of what is left", x.count(), 1);
        due("5: shorten()", x.shorten(), 1);
        due("5: first() of what is left", x.first(), 1);
        due("5: shorten()", x.shorten(), 2);
        due("5: shorten() with none", x.shorten(), -1);
        due("5: pattern()", x.pattern(), 0);
        due("5: length() stays", x.length(), 2);
    }

    private static void promise6Pattern() {
        CodeSearcher x = fed(1, 2, 3);
        due("6: pattern()", x.pattern(), 0);
        for (int i = 1; i <= 6; i++) {
            x.extend(i % 4);
            due("6: pattern()", x.pattern(), i);
        }
        for (int i = 5; i >= 0; i--) {
            x.shorten();
            due("6: pattern()", x.pattern(), i);
        }
    }

    private static void promises7And8CodesAndWords() {
        CodeSearcher x = new CodeSearcher();
        for (int i = 0; i < 70; i++) {
            due("7: codes()", x.codes(), i);
            due("8: words()", x.words(), i == 0 ? 4 : Math.min(60, i + 3));
            x.feed(99);
            x.feed(i % 4);
        }
        due("7: codes()", x.codes(), 70);
        due("8: words()", x.words(), 60);
    }

    private static void promises9And10Words() {
        CodeSearcher x = fed(2, 4, 1, 5, 3);
        String[] words = {"0", "1", "2", "3", "22", "221", "12", "2213"};
        due("8: words()", x.words(), words.length);
        for (int w = 0; w < words.length; w++) {
            int size = words[w].length();
            due("9: wordLength(" + w + ")", x.wordLength(w), size);
            due("10: word " + w, word(x, w), words[w]);
            due("10: wordSymbol(" + w + ", size)", x.wordSymbol(w, size), -1);
            due("10: wordSymbol(" + w + ", 249)", x.wordSymbol(w, 249), -1);
            due("10: wordSymbol(" + w + ", MAX)", x.wordSymbol(w, Integer.MAX_VALUE), -1);
            for (int k : WRONG) {
                due("10: wordSymbol(" + w + ", " + k + ")", x.wordSymbol(w, k), -1);
            }
        }
        int[] noWord = {Integer.MIN_VALUE, -1, 8, 9, 59, 60, 61, Integer.MAX_VALUE};
        for (int w : noWord) {
            due("9: wordLength(" + w + ")", x.wordLength(w), -1);
            due("10: wordSymbol(" + w + ", 0)", x.wordSymbol(w, 0), -1);
            due("10: wordSymbol(" + w + ", -1)", x.wordSymbol(w, -1), -1);
        }
    }

    private static void promises11And12Text() {
        CodeSearcher x = new CodeSearcher();
        due("11: length() with no codes", x.length(), 0);
        due("12: symbol(0) with no codes", x.symbol(0), -1);
        x = fed(2, 4, 1, 5, 3);
        String want = "22212213";
        due("11: length()", x.length(), want.length());
        for (int k = 0; k < want.length(); k++) {
            due("12: symbol(" + k + ")", x.symbol(k), want.charAt(k) - '0');
        }
        int[] noPlace = {Integer.MIN_VALUE, -1, 8, 9, 249, 250, 251, Integer.MAX_VALUE};
        for (int k : noPlace) {
            due("12: symbol(" + k + ")", x.symbol(k), -1);
        }
        x = fullText();
        due("12: symbol(249) of a full text", x.symbol(249), 0);
        due("12: symbol(250) of a full text", x.symbol(250), -1);
    }

    private static void promises13To15Occurrences() {
        due("text", text(search("01463", "")), "01010103");
        occurrences("01463", "", 0, -1, -1);
        occurrences("01463", "0", 4, 0, 6);
        occurrences("01463", "1", 3, 1, 5);
        occurrences("01463", "3", 1, 7, 7);
        occurrences("01463", "2", 0, -1, -1);
        occurrences("01463", "010", 3, 0, 4);
        occurrences("01463", "01010", 2, 0, 2);
        occurrences("01463", "010103", 1, 2, 2);
        occurrences("01463", "30", 0, -1, -1);
        // A pattern longer than the text, and one that is the text.
        occurrences("00", "000", 0, -1, -1);
        occurrences("000", "000", 1, 0, 0);
        occurrences("000", "00", 2, 0, 1);
        occurrences("", "0", 0, -1, -1);
        occurrences("", "", 0, -1, -1);
        // No occurrence reaches beyond the text, even where an older text had the symbols.
        CodeSearcher x = search("01", "01");
        x.restart();
        x.feed(0);
        due("13: count() after restart", x.count(), 0);
        due("14: first() after restart", x.first(), -1);
        due("15: last() after restart", x.last(), -1);
    }

    private static void occurrences(String codes, String pattern, int count, int first, int last) {
        CodeSearcher x = search(codes, pattern);
        String what = " of '" + pattern + "' with codes '" + codes + "'";
        due("13: count()" + what, x.count(), count);
        due("14: first()" + what, x.first(), first);
        due("15: last()" + what, x.last(), last);
    }

    private static void promise16Tail() {
        due("text", text(search("0142", "")), "01012");
        tail("0142", "", 0);
        tail("0142", "2", 1);
        tail("0142", "12", 2);
        tail("0142", "21", 1);
        tail("0142", "01", 0);
        tail("0142", "012", 3);
        tail("0142", "012012", 3);
        tail("0142", "01012", 5);
        tail("0142", "010123", 5);
        tail("0142", "32", 0);
        // The longest beginning counts, not the shortest.
        tail("000", "0000", 3);
        tail("0000", "00", 2);
        tail("101", "1011", 3);
        tail("1", "11", 1);
        tail("2", "12", 0);
        tail("", "00", 0);
        tail("", "", 0);
    }

    private static void tail(String codes, String pattern, int want) {
        due("16: tail() of '" + pattern + "' with codes '" + codes + "'", search(codes, pattern).tail(), want);
    }

    private static void promise17Within() {
        // The codes stand for 0 1 01 010 010 3.
        due("text", text(search("014663", "")), "01010100103");
        within("014663", "", 0);
        within("014663", "0", 1 + 1 + 2 + 2);
        within("014663", "1", 1 + 1 + 1 + 1);
        within("014663", "01", 1 + 1 + 1);
        within("014663", "10", 1 + 1);
        within("014663", "010", 1 + 1);
        within("014663", "0101", 0);
        within("014663", "00", 0);
        within("014663", "3", 1);
        within("014663", "03", 0);
        within("014663", "2", 0);
        // Several in one code, that overlap: the codes stand for 0 00 000.
        within("045", "00", 1 + 2);
        within("045", "000", 1);
        within("045", "0000", 0);
        within("", "0", 0);
    }

    private static void within(String codes, String pattern, int want) {
        due("17: within() of '" + pattern + "' with codes '" + codes + "'", search(codes, pattern).within(), want);
    }

    private static void promise18EndingIn() {
        // The codes stand for 0 1 01 010 010 3.
        endingIn("014663", "", "000000");
        endingIn("014663", "0", "101220");
        endingIn("014663", "01", "011110");
        endingIn("014663", "010", "001210");
        endingIn("014663", "00", "000010");
        endingIn("014663", "03", "000001");
        endingIn("014663", "00103", "000001");
        endingIn("014663", "2", "000000");
        // An occurrence may begin several codes before the one that it ends in.
        endingIn("0123", "0123", "0001");
        endingIn("", "0", "");
    }

    private static void endingIn(String codes, String pattern, String want) {
        CodeSearcher x = search(codes, pattern);
        String what = " of '" + pattern + "' with codes '" + codes + "'";
        for (int k = 0; k < want.length(); k++) {
            due("18: endingIn(" + k + ")" + what, x.endingIn(k), want.charAt(k) - '0');
        }
        int size = want.length();
        int[] noCode = {Integer.MIN_VALUE, -1, size, size + 1, 249, 250, 251, Integer.MAX_VALUE};
        for (int k : noCode) {
            due("18: endingIn(" + k + ")" + what, x.endingIn(k), 0);
        }
    }

    private static void promise19RefusalsChangeNothing() {
        refusalsChangeNothing("", "", 4);
        refusalsChangeNothing("", "210", 4);
        refusalsChangeNothing("01463", "", 9);
        refusalsChangeNothing("01463", "010", 9);
        refusalsChangeNothing("01463", "010103", 9);
        CodeSearcher x = refused(search("01463", "03"), 9);
        due("19: feed goes on as if nothing was refused", x.feed(8), 2);
        due("19: text", text(x), "0101010333");
        due("19: count()", x.count(), 1);
    }

    private static void refusalsChangeNothing(String codes, String pattern, int leastRefused) {
        due("19: state of '" + pattern + "' with codes '" + codes + "'",
                state(() -> refused(search(codes, pattern), leastRefused)), state(() -> search(codes, pattern)));
    }

    private static CodeSearcher refused(CodeSearcher x, int leastRefused) {
        int[] codes = {Integer.MIN_VALUE, -1, leastRefused, leastRefused + 1, 250, Integer.MAX_VALUE};
        for (int c : codes) {
            due("19: feed(" + c + ")", x.feed(c), -1);
        }
        int[] symbols = {Integer.MIN_VALUE, -1, 4, Integer.MAX_VALUE};
        for (int s : symbols) {
            due("19: extend(" + s + ")", x.extend(s), false);
        }
        if (x.pattern() == 6) {
            due("19: extend(1) with six", x.extend(1), false);
        }
        if (x.pattern() == 0) {
            due("19: shorten() with none", x.shorten(), -1);
        }
        due("19: wordLength(-1)", x.wordLength(-1), -1);
        due("19: wordSymbol(-1, 0)", x.wordSymbol(-1, 0), -1);
        due("19: wordSymbol(0, 1)", x.wordSymbol(0, 1), -1);
        due("19: symbol(-1)", x.symbol(-1), -1);
        return x;
    }

    /** The same calls as in README.md, so that what it says stays true. */
    private static void readmeExample() {
        CodeSearcher x = new CodeSearcher();
        due("README: feed(0)", x.feed(0), 1);
        due("README: feed(1)", x.feed(1), 1);
        due("README: word 4", word(x, 4), "01");
        due("README: feed(4)", x.feed(4), 2);
        due("README: word 5", word(x, 5), "10");
        due("README: feed(6)", x.feed(6), 3);
        due("README: word 6", word(x, 6), "010");
        due("README: text", text(x), "0101010");
        due("README: feed(9)", x.feed(9), CodeSearcher.NONE);
        due("README: extend(0)", x.extend(0), true);
        due("README: extend(1)", x.extend(1), true);
        due("README: count()", x.count(), 3);
        due("README: first()", x.first(), 0);
        due("README: last()", x.last(), 4);
        due("README: tail()", x.tail(), 1);
        due("README: within()", x.within(), 2);
        due("README: endingIn(1)", x.endingIn(1), 1);
        due("README: shorten()", x.shorten(), 0);
        x.restart();
        due("README: codes()", x.codes(), 0);
        due("README: pattern()", x.pattern(), 1);
    }

    public static void main(String[] args) {
        promise1NewObject();
        promise2FirstCode();
        promise2LaterCodes();
        promise2FullDictionary();
        promise2LongestText();
        promise2MostCodes();
        promise3Restart();
        promise4Extend();
        promise5Shorten();
        promise6Pattern();
        promises7And8CodesAndWords();
        promises9And10Words();
        promises11And12Text();
        promises13To15Occurrences();
        promise16Tail();
        promise17Within();
        promise18EndingIn();
        promise19RefusalsChangeNothing();
        readmeExample();
        System.out.println(wrong == 0 ? "all promises hold" : wrong + " answers are not as due");
        if (wrong != 0) {
            System.exit(1);
        }
    }
}
