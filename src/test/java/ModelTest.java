import java.util.ArrayList;
import java.util.List;

/**
 * Long mixed runs of calls, answered side by side by CodeSearcher and by a model that follows the
 * document's words with strings. The runs come from a fixed row of numbers: each run of this test
 * makes the same calls.
 */
public final class ModelTest {
    private static final int RUNS = 3000;
    private static final int CALLS = 512;
    private static int wrong = 0;

    /** The document's terms, word for word and without a thought for speed. */
    private static final class Model {
        final List<String> dictionary = new ArrayList<>();
        final List<String> meanings = new ArrayList<>();
        String pattern = "";

        Model() {
            restart();
        }

        void restart() {
            dictionary.clear();
            meanings.clear();
            for (int s = 0; s < 4; s++) {
                dictionary.add("" + s);
            }
        }

        String text() {
            return String.join("", meanings);
        }

        int feed(int c) {
            int n = dictionary.size();
            boolean isFirst = meanings.isEmpty();
            boolean addsWord = !isFirst && n < 60;
            if (c < 0 || c > n || (c == n && !addsWord)) {
                return -1;
            }
            String before = isFirst ? "" : meanings.get(meanings.size() - 1);
            String meaning = c < n ? dictionary.get(c) : before + before.charAt(0);
            if (text().length() + meaning.length() > 250) {
                return -1;
            }
            if (addsWord) {
                dictionary.add(before + meaning.charAt(0));
            }
            meanings.add(meaning);
            return meaning.length();
        }

        boolean extend(int s) {
            if (s < 0 || s > 3 || pattern.length() == 6) {
                return false;
            }
            pattern += s;
            return true;
        }

        int shorten() {
            if (pattern.isEmpty()) {
                return -1;
            }
            int taken = pattern.charAt(0) - '0';
            pattern = pattern.substring(1);
            return taken;
        }

        int wordLength(int w) {
            return w < 0 || w >= dictionary.size() ? -1 : dictionary.get(w).length();
        }

        int wordSymbol(int w, int k) {
            return k < 0 || k >= wordLength(w) ? -1 : dictionary.get(w).charAt(k) - '0';
        }

        int symbol(int k) {
            String text = text();
            return k < 0 || k >= text.length() ? -1 : text.charAt(k) - '0';
        }

        List<Integer> occurrences(String text) {
            List<Integer> places = new ArrayList<>();
            for (int p = 0; p < text.length() && !pattern.isEmpty(); p++) {
                if (text.startsWith(pattern, p)) {
                    places.add(p);
                }
            }
            return places;
        }

        int count() {
            return occurrences(text()).size();
        }

        int first() {
            return text().isEmpty() || pattern.isEmpty() ? -1 : text().indexOf(pattern);
        }

        int last() {
            return text().isEmpty() || pattern.isEmpty() ? -1 : text().lastIndexOf(pattern);
        }

        int tail() {
            int longest = 0;
            for (int size = 1; size <= pattern.length(); size++) {
                if (text().endsWith(pattern.substring(0, size))) {
                    longest = size;
                }
            }
            return longest;
        }

        int within() {
            int found = 0;
            for (String meaning : meanings) {
                found += occurrences(meaning).size();
            }
            return found;
        }

        int endingIn(int k) {
            if (k < 0 || k >= meanings.size()) {
                return 0;
            }
            // What ends in code k is what the text has with it and has not without it.
            String upTo = String.join("", meanings.subList(0, k + 1));
            String without = String.join("", meanings.subList(0, k));
            return occurrences(upTo).size() - occurrences(without).size();
        }
    }

    private static long numbers = 20240229L;

    private static int below(int bound) {
        numbers = numbers * 6364136223846793005L + 1442695040888963407L;
        return (int) ((numbers >>> 33) % bound);
    }

    /** Mostly near the range that means something, now and then far outside it. */
    private static int argument(int size) {
        switch (below(24)) {
            case 0: return Integer.MIN_VALUE + below(3);
            case 1: return Integer.MAX_VALUE - below(3);
            case 2: return -1 - below(3);
            case 3: return size + below(3);
            default: return below(size + 1);
        }
    }

    private static int code(int style, int words) {
        switch (style) {
            case 0: return below(2);
            case 1: return below(10) == 0 ? words : below(4);
            case 2: return words - below(3);
            default: return argument(words);
        }
    }

    private static void due(int run, int call, String name, int got, int want) {
        if (got != want) {
            wrong++;
            if (wrong <= 20) {
                System.out.println("run " + run + ", call " + call + ": " + name + " answered " + got + ", due is " + want);
            }
        }
    }

    private static void change(int run, int call, int style, CodeSearcher x, Model model) {
        int kind = below(style == 0 ? 400 : 100);
        if (kind == 0) {
            x.restart();
            model.restart();
        } else if (kind < 10) {
            int s = below(8) == 0 ? argument(4) : below(2);
            due(run, call, "extend(" + s + ")", x.extend(s) ? 1 : 0, model.extend(s) ? 1 : 0);
        } else if (kind < 16) {
            due(run, call, "shorten()", x.shorten(), model.shorten());
        } else {
            int c = code(style, model.dictionary.size());
            due(run, call, "feed(" + c + ")", x.feed(c), model.feed(c));
        }
    }

    private static void ask(int run, int call, CodeSearcher x, Model model) {
        int w = argument(model.dictionary.size());
        int k = argument(Math.max(1, model.wordLength(w)));
        int place = argument(model.text().length());
        int number = argument(model.meanings.size());
        switch (below(13)) {
            case 0: due(run, call, "pattern()", x.pattern(), model.pattern.length()); break;
            case 1: due(run, call, "codes()", x.codes(), model.meanings.size()); break;
            case 2: due(run, call, "words()", x.words(), model.dictionary.size()); break;
            case 3: due(run, call, "wordLength(" + w + ")", x.wordLength(w), model.wordLength(w)); break;
            case 4: due(run, call, "wordSymbol(" + w + ", " + k + ")", x.wordSymbol(w, k), model.wordSymbol(w, k)); break;
            case 5: due(run, call, "length()", x.length(), model.text().length()); break;
            case 6: due(run, call, "symbol(" + place + ")", x.symbol(place), model.symbol(place)); break;
            case 7: due(run, call, "count()", x.count(), model.count()); break;
            case 8: due(run, call, "first()", x.first(), model.first()); break;
            case 9: due(run, call, "last()", x.last(), model.last()); break;
            case 10: due(run, call, "tail()", x.tail(), model.tail()); break;
            case 11: due(run, call, "within()", x.within(), model.within()); break;
            default: due(run, call, "endingIn(" + number + ")", x.endingIn(number), model.endingIn(number)); break;
        }
    }

    public static void main(String[] args) {
        int fullTexts = 0;
        int fullDictionaries = 0;
        for (int run = 0; run < RUNS; run++) {
            CodeSearcher x = new CodeSearcher();
            Model model = new Model();
            int style = run % 4;
            for (int call = 1; call <= CALLS; call++) {
                if (below(2) == 0) {
                    change(run, call, style, x, model);
                } else {
                    ask(run, call, x, model);
                }
            }
            fullTexts += model.text().length() == 250 ? 1 : 0;
            fullDictionaries += model.dictionary.size() == 60 ? 1 : 0;
        }
        // Runs that never come to the limits would say nothing of them.
        if (fullTexts == 0 || fullDictionaries == 0) {
            wrong++;
            System.out.println("the runs do not reach the limits");
        }
        System.out.println(wrong == 0
                ? "all answers are the model's (" + fullTexts + " full texts, " + fullDictionaries + " full dictionaries)"
                : wrong + " answers are not the model's");
        if (wrong != 0) {
            System.exit(1);
        }
    }
}
