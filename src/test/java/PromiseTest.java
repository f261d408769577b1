/** One method for each promise of the document: ordinary inputs, the named edges, wrong inputs. */
public final class PromiseTest {
    private static final int[] WRONG = {Integer.MIN_VALUE, -1000, -2, -1};
    private static int wrong = 0;

    private static void due(String call, long got, long want) {
        if (got != want) {
            wrong++;
            System.out.println(call + " answered " + got + ", due is " + want);
        }
    }

    private static void due(String call, boolean got, boolean want) {
        due(call, got ? 1 : 0, want ? 1 : 0);
    }

    private static void due(String call, String got, String want) {
        if (!got.equals(want)) {
            wrong++;
            System.out.println(call + " answered " + got + ", due is " + want);
        }
    }

    private static CodeSearcher fed(int... codes) {
        CodeSearcher x = new CodeSearcher();
        for (int c : codes) {
            if (x.feed(c) < 1) {
                wrong++;
                System.out.println("feed(" + c + ") was refused while a test was set up");
            }
        }
        return x;
    }

    private static CodeSearcher seeking(CodeSearcher x, int... symbols) {
        while (x.pattern() > 0) {
            x.shorten();
        }
        for (int s : symbols) {
            due("extend(" + s + ")", x.extend(s), true);
        }
        return x;
    }

    private static String text(CodeSearcher x) {
        StringBuilder out = new StringBuilder();
        for (int k = 0; k < x.length(); k++) {
            out.append(x.symbol(k));
        }
        return out.toString();
    }

    private static String word(CodeSearcher x, int w) {
        StringBuilder out = new StringBuilder();
        for (int k = 0; k < x.wordLength(w); k++) {
            out.append(x.wordSymbol(w, k));
        }
        return out.toString();
    }

    /** All that an object tells of itself, so that "changes nothing" can be looked at. */
    private static String state(CodeSearcher x) {
        StringBuilder out = new StringBuilder();
        out.append(x.pattern()).append('/').append(x.codes()).append('/').append(x.words());
        out.append('/').append(text(x));
        for (int w = 0; w < x.words(); w++) {
            out.append(' ').append(word(x, w));
        }
        out.append(" c").append(x.count()).append(" f").append(x.first()).append(" l").append(x.last());
        out.append(" t").append(x.tail()).append(" w").append(x.within());
        for (int k = 0; k < x.codes(); k++) {
            out.append(" e").append(x.endingIn(k));
        }
        return out.toString();
    }

    private static void promise1NewObject() {
        CodeSearcher x = new CodeSearcher();
        due("1: codes()", x.codes(), 0);
        due("1: length()", x.length(), 0);
        due("1: pattern()", x.pattern(), 0);
        due("1: words()", x.words(), 4);
        for (int w = 0; w < 4; w++) {
            due("1: word " + w, word(x, w), "" + w);
        }
        due("1: shorten()", x.shorten(), CodeSearcher.NONE);
        due("1: NONE", CodeSearcher.NONE, -1);
        CodeSearcher other = fed(3, 4);
        seeking(other, 3);
        due("1: codes() beside another object", x.codes(), 0);
        due("1: pattern() beside another object", x.pattern(), 0);
    }

    private static void promise2FirstCode() {
        for (int c = 0; c < 4; c++) {
            CodeSearcher x = new CodeSearcher();
            due("2: first feed(" + c + ")", x.feed(c), 1);
            due("2: text", text(x), "" + c);
            due("2: words()", x.words(), 4);
        }
        CodeSearcher x = new CodeSearcher();
        due("2: first feed(4)", x.feed(4), -1);
        due("2: first feed(5)", x.feed(5), -1);
        due("2: first feed(MAX)", x.feed(Integer.MAX_VALUE), -1);
        for (int c : WRONG) {
            due("2: first feed(" + c + ")", x.feed(c), -1);
        }
        due("2: codes() after refusals", x.codes(), 0);
    }

    private static void promise2LaterCodes() {
        CodeSearcher x = fed(0, 1);
        due("2: word 4", word(x, 4), "01");
        due("2: feed(6)", x.feed(6), -1);
        due("2: feed(4)", x.feed(4), 2);
        due("2: word 5", word(x, 5), "10");
        due("2: feed(6), the word being made", x.feed(6), 3);
        due("2: word 6", word(x, 6), "010");
        due("2: text", text(x), "0101010");
        due("2: feed(8)", x.feed(8), -1);
        due("2: feed(MAX)", x.feed(Integer.MAX_VALUE), -1);
        for (int c : WRONG) {
            due("2: feed(" + c + ")", x.feed(c), -1);
        }
        due("2: feed(3)", x.feed(3), 1);
        due("2: word 7", word(x, 7), "0103");
        due("2: words()", x.words(), 8);
        due("2: text", text(x), "01010103");
        // A word may be made that the dictionary has already.
        x = fed(0, 0, 0);
        due("2: word 4", word(x, 4), "00");
        due("2: word 5", word(x, 5), "00");
    }

    private static void promise2FullDictionary() {
        CodeSearcher x = new CodeSearcher();
        for (int i = 0; i < 56; i++) {
            due("2: feed while it fills", x.feed(i % 4), 1);
        }
        due("2: words() one before full", x.words(), 59);
        due("2: feed(60) at 59 words", x.feed(60), -1);
        due("2: feed(59) at 59 words", x.feed(59), 2);
        due("2: word 59", word(x, 59), "33");
        due("2: words() when full", x.words(), 60);
        due("2: feed(60) when full", x.feed(60), -1);
        due("2: feed(61) when full", x.feed(61), -1);
        due("2: feed(59) when full", x.feed(59), 2);
        due("2: feed(5) when full", x.feed(5), 2);
        due("2: feed(0) when full", x.feed(0), 1);
        due("2: words() stay", x.words(), 60);
        due("2: word 59 stays", word(x, 59), "33");
        due("2: codes() go on", x.codes(), 60);
        due("2: wordLength(60)", x.wordLength(60), -1);
        due("2: text's end", text(x).substring(56), "3333120");
    }

    private static CodeSearcher zeros(int codes) {
        CodeSearcher x = fed(0);
        for (int i = 1; i < codes; i++) {
            due("zeros: feed(" + (i + 3) + ")", x.feed(i + 3), i + 1);
        }
        return x;
    }

    private static void promise2LongestText() {
        CodeSearcher x = zeros(21);
        due("2: length()", x.length(), 231);
        String before = state(x);
        due("2: feed(24), 22 symbols with room for 19", x.feed(24), -1);
        due("2: feed(22), 20 symbols with room for 19", x.feed(22), -1);
        due("2: state after refusals", state(x), before);
        due("2: feed(21), 19 symbols with room for 19", x.feed(21), 19);
        due("2: length()", x.length(), 250);
        due("2: words()", x.words(), 25);
        before = state(x);
        for (int c = 0; c < 26; c++) {
            due("2: feed(" + c + ") when the text is full", x.feed(c), -1);
        }
        due("2: state after refusals", state(x), before);
        // The word being made may just fit too: 210 + 1 + 19 + 20 = 250.
        x = zeros(20);
        due("2: feed(0)", x.feed(0), 1);
        due("2: feed(21)", x.feed(21), 19);
        due("2: feed(25), the word being made, that fits", x.feed(25), 20);
        due("2: length()", x.length(), 250);
        // One symbol more before it, and it does not fit.
        x = zeros(20);
        due("2: feed(0)", x.feed(0), 1);
        due("2: feed(0)", x.feed(0), 1);
        due("2: feed(21)", x.feed(21), 19);
        due("2: feed(26), the word being made, that does not fit", x.feed(26), -1);
        due("2: words()", x.words(), 26);
        due("2: length()", x.length(), 231);
    }

    private static void promise2MostCodes() {
        CodeSearcher x = new CodeSearcher();
        for (int i = 0; i < 250; i++) {
            due("2: feed " + i, x.feed(i % 3), 1);
        }
        due("2: codes()", x.codes(), 250);
        due("2: length()", x.length(), 250);
        due("2: words()", x.words(), 60);
        due("2: feed(0) beyond", x.feed(0), -1);
        seeking(x, 0);
        due("2: endingIn(249)", x.endingIn(249), 1);
        due("2: endingIn(250)", x.endingIn(250), 0);
    }

    private static void promise3Restart() {
        CodeSearcher x = fed(0, 4, 5, 1);
        seeking(x, 0, 1);
        due("3: count() before", x.count(), 1);
        x.restart();
        due("3: codes()", x.codes(), 0);
        due("3: length()", x.length(), 0);
        due("3: words()", x.words(), 4);
        due("3: wordLength(4)", x.wordLength(4), -1);
        due("3: symbol(0)", x.symbol(0), -1);
        due("3: pattern()", x.pattern(), 2);
        due("3: count()", x.count(), 0);
        due("3: first()", x.first(), -1);
        due("3: last()", x.last(), -1);
        due("3: tail()", x.tail(), 0);
        due("3: within()", x.within(), 0);
        due("3: endingIn(0)", x.endingIn(0), 0);
        due("3: feed(4) as first code", x.feed(4), -1);
        due("3: feed(0)", x.feed(0), 1);
        due("3: words() after the first code", x.words(), 4);
        due("3: feed(1)", x.feed(1), 1);
        due("3: word 4", word(x, 4), "01");
        due("3: count()", x.count(), 1);
        due("3: shorten()", x.shorten(), 0);
        due("3: shorten()", x.shorten(), 1);
        x.restart();
        x.restart();
        due("3: codes() after restart twice", x.codes(), 0);
    }

    private static void promise4Extend() {
        CodeSearcher x = new CodeSearcher();
        for (int s : WRONG) {
            due("4: extend(" + s + ")", x.extend(s), false);
        }
        due("4: extend(4)", x.extend(4), false);
        due("4: extend(MAX)", x.extend(Integer.MAX_VALUE), false);
        due("4: pattern()", x.pattern(), 0);
        int[] symbols = {2, 0, 3, 1, 1, 0};
        for (int s : symbols) {
            due("4: extend(" + s + ")", x.extend(s), true);
        }
        for (int s = -1; s < 5; s++) {
            due("4: extend(" + s + ") with six", x.extend(s), false);
        }
        due("4: pattern()", x.pattern(), 6);
        due("4: shorten()", x.shorten(), 2);
        due("4: extend(3) when there is room again", x.extend(3), true);
        int[] left = {0, 3, 1, 1, 0, 3};
        for (int s : left) {
            due("4: shorten()", x.shorten(), s);
        }
        due("4: pattern()", x.pattern(), 0);
    }

    private static void promise5Shorten() {
        CodeSearcher x = new CodeSearcher();
        due("5: shorten() with none", x.shorten(), -1);
        seeking(x, 3, 1, 2);
        due("5: shorten()", x.shorten(), 3);
        due("5: pattern()", x.pattern(), 2);
        x.feed(1);
        x.feed(2);
        due("5: count() of what is left", x.count(), 1);
        due("5: shorten()", x.shorten(), 1);
        due("5: first() of what is left", x.first(), 1);
        due("5: shorten()", x.shorten(), 2);
        due("5: shorten() with none", x.shorten(), -1);
        due("5: pattern()", x.pattern(), 0);
        due("5: length() stays", x.length(), 2);
    }

    private static void promise6Pattern() {
        CodeSearcher x = fed(1, 2, 3);
        due("6: pattern()", x.pattern(), 0);
        for (int i = 1; i <= 6; i++) {
            x.extend(i % 4);
            due("6: pattern()", x.pattern(), i);
        }
        for (int i = 5; i >= 0; i--) {
            x.shorten();
            due("6: pattern()", x.pattern(), i);
        }
    }

    private static void promises7And8CodesAndWords() {
        CodeSearcher x = new CodeSearcher();
        for (int i = 0; i < 70; i++) {
            due("7: codes()", x.codes(), i);
            due("8: words()", x.words(), i == 0 ? 4 : Math.min(60, i + 3));
            x.feed(99);
            x.feed(i % 4);
        }
        due("7: codes()", x.codes(), 70);
        due("8: words()", x.words(), 60);
    }

    private static void promises9And10Words() {
        CodeSearcher x = fed(2, 4, 1, 5, 3);
        String[] words = {"0", "1", "2", "3", "22", "221", "12", "2213"};
        due("8: words()", x.words(), words.length);
        for (int w = 0; w < words.length; w++) {
            int size = words[w].length();
            due("9: wordLength(" + w + ")", x.wordLength(w), size);
            due("10: word " + w, word(x, w), words[w]);
            due("10: wordSymbol(" + w + ", size)", x.wordSymbol(w, size), -1);
            due("10: wordSymbol(" + w + ", 249)", x.wordSymbol(w, 249), -1);
            due("10: wordSymbol(" + w + ", MAX)", x.wordSymbol(w, Integer.MAX_VALUE), -1);
            for (int k : WRONG) {
                due("10: wordSymbol(" + w + ", " + k + ")", x.wordSymbol(w, k), -1);
            }
        }
        int[] noWord = {Integer.MIN_VALUE, -1, 8, 9, 59, 60, 61, Integer.MAX_VALUE};
        for (int w : noWord) {
            due("9: wordLength(" + w + ")", x.wordLength(w), -1);
            due("10: wordSymbol(" + w + ", 0)", x.wordSymbol(w, 0), -1);
            due("10: wordSymbol(" + w + ", -1)", x.wordSymbol(w, -1), -1);
        }
    }

    private static void promises11And12Text() {
        CodeSearcher x = new CodeSearcher();
        due("11: length() with no codes", x.length(), 0);
        due("12: symbol(0) with no codes", x.symbol(0), -1);
        x = fed(2, 4, 1, 5, 3);
        String want = "22212213";
        due("11: length()", x.length(), want.length());
        for (int k = 0; k < want.length(); k++) {
            due("12: symbol(" + k + ")", x.symbol(k), want.charAt(k) - '0');
        }
        int[] noPlace = {Integer.MIN_VALUE, -1, 8, 9, 249, 250, 251, Integer.MAX_VALUE};
        for (int k : noPlace) {
            due("12: symbol(" + k + ")", x.symbol(k), -1);
        }
        x = zeros(21);
        x.feed(21);
        due("12: symbol(249) of a full text", x.symbol(249), 0);
        due("12: symbol(250) of a full text", x.symbol(250), -1);
    }

    private static void promises13To15Occurrences() {
        CodeSearcher x = fed(0, 1, 4, 6, 3);
        due("text", text(x), "01010103");
        occurrences(x, 0, -1, -1);
        occurrences(x, 4, 0, 6, 0);
        occurrences(x, 3, 1, 5, 1);
        occurrences(x, 1, 7, 7, 3);
        occurrences(x, 0, -1, -1, 2);
        occurrences(x, 3, 0, 4, 0, 1, 0);
        occurrences(x, 2, 0, 2, 0, 1, 0, 1, 0);
        occurrences(x, 1, 2, 2, 0, 1, 0, 1, 0, 3);
        occurrences(x, 0, -1, -1, 3, 0);
        // No occurrence reaches beyond the text, even where an older text had the symbols.
        x.restart();
        x.feed(0);
        occurrences(x, 0, -1, -1, 0, 1);
        occurrences(x, 1, 0, 0, 0);
        // A pattern longer than the text, and one that is the text.
        occurrences(fed(0, 0), 0, -1, -1, 0, 0, 0);
        occurrences(fed(0, 0, 0), 1, 0, 0, 0, 0, 0);
        occurrences(fed(0, 0, 0), 2, 0, 1, 0, 0);
        occurrences(new CodeSearcher(), 0, -1, -1, 0);
        occurrences(new CodeSearcher(), 0, -1, -1);
    }

    private static void occurrences(CodeSearcher x, int count, int first, int last, int... symbols) {
        String what = java.util.Arrays.toString(symbols) + " in '" + text(x) + "'";
        seeking(x, symbols);
        due("13: count() of " + what, x.count(), count);
        due("14: first() of " + what, x.first(), first);
        due("15: last() of " + what, x.last(), last);
    }

    private static void promise16Tail() {
        CodeSearcher x = fed(0, 1, 4, 2);
        due("text", text(x), "01012");
        due("16: tail() with no pattern", x.tail(), 0);
        tail(x, 1, 2);
        tail(x, 2, 1, 2);
        tail(x, 1, 2, 1);
        tail(x, 0, 0, 1);
        tail(x, 3, 0, 1, 2);
        tail(x, 3, 0, 1, 2, 0, 1, 2);
        tail(x, 5, 0, 1, 0, 1, 2);
        tail(x, 5, 0, 1, 0, 1, 2, 3);
        tail(x, 0, 3, 2);
        // The longest beginning counts, not the shortest.
        tail(fed(0, 0, 0), 3, 0, 0, 0, 0);
        tail(fed(0, 0, 0, 0), 2, 0, 0);
        tail(fed(1, 0, 1), 3, 1, 0, 1, 1);
        tail(fed(1), 1, 1, 1);
        tail(fed(2), 0, 1, 2);
        tail(new CodeSearcher(), 0, 0, 0);
    }

    private static void tail(CodeSearcher x, int want, int... symbols) {
        seeking(x, symbols);
        due("16: tail() of " + java.util.Arrays.toString(symbols) + " in '" + text(x) + "'", x.tail(), want);
    }

    private static void promise17Within() {
        // The codes' symbols: 0 1 01 010 010 3
        CodeSearcher x = fed(0, 1, 4, 6, 6, 3);
        due("text", text(x), "01010100103");
        due("17: within() with no pattern", x.within(), 0);
        within(x, 1 + 1 + 2 + 2, 0);
        within(x, 1 + 1 + 1 + 1, 1);
        within(x, 1 + 1 + 1, 0, 1);
        within(x, 1 + 1, 1, 0);
        within(x, 2, 0, 1, 0);
        within(x, 0, 0, 1, 0, 1);
        within(x, 0, 0, 0);
        within(x, 1, 3);
        within(x, 0, 0, 3);
        within(x, 0, 2);
        // Several, overlapping, in one code: 0 00 000
        within(fed(0, 4, 5), 1 + 2, 0, 0);
        within(fed(0, 4, 5), 1, 0, 0, 0);
        within(new CodeSearcher(), 0, 0);
    }

    private static void within(CodeSearcher x, int want, int... symbols) {
        seeking(x, symbols);
        due("17: within() of " + java.util.Arrays.toString(symbols) + " in '" + text(x) + "'", x.within(), want);
    }

    private static void promise18EndingIn() {
        // The codes' symbols: 0 1 01 010 010 3
        CodeSearcher x = fed(0, 1, 4, 6, 6, 3);
        endingIn(x, "000000");
        endingIn(x, "101220", 0);
        endingIn(x, "011110", 0, 1);
        endingIn(x, "001210", 0, 1, 0);
        endingIn(x, "000010", 0, 0);
        endingIn(x, "000001", 0, 3);
        endingIn(x, "000001", 0, 0, 1, 0, 3);
        endingIn(x, "000000", 2);
        // An occurrence may begin several codes before the one that it ends in.
        endingIn(fed(0, 1, 2, 3), "0001", 0, 1, 2, 3);
        endingIn(new CodeSearcher(), "", 0);
    }

    private static void endingIn(CodeSearcher x, String want, int... symbols) {
        seeking(x, symbols);
        String what = " of " + java.util.Arrays.toString(symbols) + " in '" + text(x) + "'";
        for (int k = 0; k < want.length(); k++) {
            due("18: endingIn(" + k + ")" + what, x.endingIn(k), want.charAt(k) - '0');
        }
        int[] noCode = {Integer.MIN_VALUE, -1, x.codes(), x.codes() + 1, 249, 250, 251, Integer.MAX_VALUE};
        for (int k : noCode) {
            due("18: endingIn(" + k + ")" + what, x.endingIn(k), 0);
        }
    }

    private static void promise19RefusalsChangeNothing() {
        CodeSearcher empty = new CodeSearcher();
        refusals(empty, 4);
        due("19: shorten()", empty.shorten(), -1);
        due("19: state", state(empty), state(new CodeSearcher()));
        CodeSearcher x = fed(0, 1, 4, 6, 3);
        seeking(x, 0, 1, 0);
        refusals(x, x.words() + 1);
        seeking(x, 0, 1, 0, 1, 0, 3);
        String before = state(x);
        due("19: extend(1) with six", x.extend(1), false);
        due("19: state after extend(1) with six", state(x), before);
        refusals(x, x.words() + 1);
        due("19: feed goes on as if nothing was refused", x.feed(8), 2);
        due("19: text", text(x), "0101010333");
    }

    private static void refusals(CodeSearcher x, int leastRefused) {
        String before = state(x);
        int[] codes = {Integer.MIN_VALUE, -1, leastRefused, leastRefused + 1, 250, Integer.MAX_VALUE};
        for (int c : codes) {
            due("19: feed(" + c + ")", x.feed(c), -1);
            due("19: state after feed(" + c + ")", state(x), before);
        }
        int[] symbols = {Integer.MIN_VALUE, -1, 4, Integer.MAX_VALUE};
        for (int s : symbols) {
            due("19: extend(" + s + ")", x.extend(s), false);
            due("19: state after extend(" + s + ")", state(x), before);
        }
        x.wordLength(-1);
        x.wordSymbol(-1, -1);
        x.wordSymbol(0, 1);
        x.symbol(-1);
        x.endingIn(-1);
        due("19: state after questions that are refused", state(x), before);
    }

    public static void main(String[] args) {
        promise1NewObject();
        promise2FirstCode();
        promise2LaterCodes();
        promise2FullDictionary();
        promise2LongestText();
        promise2MostCodes();
        promise3Restart();
        promise4Extend();
        promise5Shorten();
        promise6Pattern();
        promises7And8CodesAndWords();
        promises9And10Words();
        promises11And12Text();
        promises13To15Occurrences();
        promise16Tail();
        promise17Within();
        promise18EndingIn();
        promise19RefusalsChangeNothing();
        System.out.println(wrong == 0 ? "all promises hold" : wrong + " answers are not as due");
        if (wrong != 0) {
            System.exit(1);
        }
    }
}
