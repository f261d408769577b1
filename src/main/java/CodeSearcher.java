/** Looks for a pattern in a text that is given as a row of dictionary codes. */
public final class CodeSearcher {
    public static final int NONE = -1;

    private static final int SYMBOLS = 4;
    private static final int MOST_WORDS = 60;
    private static final int LONGEST_TEXT = 250;
    private static final int LONGEST_PATTERN = 6;

    private final int[] text = new int[LONGEST_TEXT];
    private int textSize;

    // Every code stands for at least one symbol, so there are never more codes than symbols.
    private final int[] codeStart = new int[LONGEST_TEXT];
    private int codeCount;

    // A word that was added is the word of one code and the first symbol of the next code, and
    // these stand side by side in the text: so a place in the text and a size are enough to hold
    // it. The single symbols 0 .. 3 need not stand in the text; they have a size but no place.
    private final int[] wordStart = new int[MOST_WORDS];
    private final int[] wordSize = new int[MOST_WORDS];
    private int wordCount;

    private final int[] sought = new int[LONGEST_PATTERN];
    private int soughtSize;

    public CodeSearcher() {
        for (int s = 0; s < SYMBOLS; s++) {
            wordSize[s] = 1;
        }
        wordCount = SYMBOLS;
    }

    public int feed(int c) {
        if (c < 0 || c > greatestCode()) {
            return NONE;
        }
        int size = c < wordCount ? wordSize[c] : lastCodeSize() + 1;
        if (size > LONGEST_TEXT - textSize) {
            return NONE;
        }
        // The new word comes first, because c may be its number.
        addWord();
        appendWord(c);
        return size;
    }

    public void restart() {
        textSize = 0;
        codeCount = 0;
        wordCount = SYMBOLS;
    }

    public boolean extend(int s) {
        if (!isSymbol(s) || soughtSize >= LONGEST_PATTERN) {
            return false;
        }
        sought[soughtSize] = s;
        soughtSize++;
        return true;
    }

    public int shorten() {
        if (soughtSize == 0) {
            return NONE;
        }
        int taken = sought[0];
        for (int i = 1; i < soughtSize; i++) {
            sought[i - 1] = sought[i];
        }
        soughtSize--;
        return taken;
    }

    public int pattern() {
        return soughtSize;
    }

    public int codes() {
        return codeCount;
    }

    public int words() {
        return wordCount;
    }

    public int wordLength(int w) {
        return isWord(w) ? wordSize[w] : NONE;
    }

    public int wordSymbol(int w, int k) {
        if (!isWord(w) || k < 0 || k >= wordSize[w]) {
            return NONE;
        }
        return symbolOfWord(w, k);
    }

    public int length() {
        return textSize;
    }

    public int symbol(int k) {
        return k >= 0 && k < textSize ? text[k] : NONE;
    }

    public int count() {
        return occurrencesFrom(0, textSize - soughtSize);
    }

    public int first() {
        for (int p = 0; p < textSize; p++) {
            if (occursAt(p)) {
                return p;
            }
        }
        return NONE;
    }

    public int last() {
        for (int p = textSize - 1; p >= 0; p--) {
            if (occursAt(p)) {
                return p;
            }
        }
        return NONE;
    }

    public int tail() {
        for (int size = soughtSize; size > 0; size--) {
            if (beginningStandsAt(textSize - size, size)) {
                return size;
            }
        }
        return 0;
    }

    public int within() {
        int found = 0;
        for (int k = 0; k < codeCount; k++) {
            int end = codeEnd(k);
            found += occurrencesFrom(codeStart[k], end - soughtSize);
        }
        return found;
    }

    public int endingIn(int k) {
        if (k < 0 || k >= codeCount) {
            return 0;
        }
        int end = codeEnd(k);
        // An occurrence at p has its last symbol at p + soughtSize - 1.
        return occurrencesFrom(codeStart[k] - soughtSize + 1, end - soughtSize);
    }

    private boolean isSymbol(int s) {
        return s >= 0 && s < SYMBOLS;
    }

    private boolean isWord(int w) {
        return w >= 0 && w < wordCount;
    }

    /** The code after the last word names the word that is just being made, where one is made. */
    private int greatestCode() {
        return makesWord() ? wordCount : wordCount - 1;
    }

    /** The first code has no code before it to make a word of. */
    private boolean makesWord() {
        return codeCount > 0 && wordCount < MOST_WORDS;
    }

    private int lastCodeSize() {
        return codeCount > 0 ? textSize - codeStart[codeCount - 1] : 0;
    }

    /** The word's last symbol is the one that stands at textSize once the next code is appended. */
    private void addWord() {
        if (makesWord()) {
            wordStart[wordCount] = codeStart[codeCount - 1];
            wordSize[wordCount] = lastCodeSize() + 1;
            wordCount++;
        }
    }

    /** Goes from left to right, because a word just made reaches into the symbols appended here. */
    private void appendWord(int w) {
        int start = textSize;
        int size = wordSize[w];
        for (int i = 0; i < size; i++) {
            text[start + i] = symbolOfWord(w, i);
        }
        codeStart[codeCount] = start;
        codeCount++;
        textSize = start + size;
    }

    private int symbolOfWord(int w, int k) {
        return w < SYMBOLS ? w : text[wordStart[w] + k];
    }

    private int codeEnd(int k) {
        return k + 1 < codeCount ? codeStart[k + 1] : textSize;
    }

    private int occurrencesFrom(int least, int greatest) {
        int found = 0;
        for (int p = least; p <= greatest; p++) {
            if (occursAt(p)) {
                found++;
            }
        }
        return found;
    }

    /** An occurrence needs a pattern, though its empty beginning would stand everywhere. */
    private boolean occursAt(int p) {
        return soughtSize > 0 && beginningStandsAt(p, soughtSize);
    }

    private boolean beginningStandsAt(int p, int size) {
        if (p < 0 || p > textSize - size) {
            return false;
        }
        for (int i = 0; i < size; i++) {
            if (text[p + i] != sought[i]) {
                return false;
            }
        }
        return true;
    }
}
