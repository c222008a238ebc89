import java.util.ArrayList;
import java.util.List;

/**
 * Runs of calls on a SymbolMender beside a model made straight from the
 * document's terms: its code words are all the words whose four values are 0.
 */
public final class ModelTest {
    private static final int CALLS_PER_OBJECT = 512;
    private static final int OBJECTS = 400;

    private static final List<int[]> CODE_WORDS = findCodeWords();

    private static int failures = 0;
    private static long state = 20261115L;

    private final int[] word = new int[7];
    private final boolean[] missing = new boolean[7];

    public static void main(String[] args) {
        if (CODE_WORDS.size() != 512) {
            failures++;
            System.out.println("the model has " + CODE_WORDS.size() + " code words, due are 512");
        }
        for (int run = 0; run < OBJECTS; run++) {
            mixedRun(run);
        }
        everyLossWithHarm();
        System.out.println(failures == 0 ? "the class answers as the model does" : failures + " answers differ");
        if (failures != 0) {
            System.exit(1);
        }
    }

    // The model

    private static int multiply(int a, int b) {
        int[] coefficients = new int[5];
        for (int i = 0; i < 3; i++) {
            for (int j = 0; j < 3; j++) {
                coefficients[i + j] ^= (a >> i) & (b >> j) & 1;
            }
        }
        int result = coefficients[0] | coefficients[1] << 1 | coefficients[2] << 2;
        return result ^ coefficients[3] * 3 ^ coefficients[4] * 6;
    }

    private static int valueOf(int[] word, int s) {
        int sum = 0;
        int power = 1;
        for (int symbol : word) {
            sum ^= multiply(symbol, power);
            power = multiply(power, s);
        }
        return sum;
    }

    private static List<int[]> findCodeWords() {
        List<int[]> found = new ArrayList<>();
        int[] word = new int[7];
        for (int index = 0; index < 1 << 21; index++) {
            for (int place = 0; place < 7; place++) {
                word[place] = index >> 3 * place & 7;
            }
            if (valueOf(word, 2) == 0 && valueOf(word, 4) == 0 && valueOf(word, 3) == 0 && valueOf(word, 6) == 0) {
                found.add(word.clone());
            }
        }
        return found;
    }

    private int differing(int[] code) {
        int count = 0;
        for (int place = 0; place < 7; place++) {
            count += !missing[place] && code[place] != word[place] ? 1 : 0;
        }
        return count;
    }

    /** The code word that fits, or null. */
    private int[] fitting() {
        int lost = 0;
        for (boolean gone : missing) {
            lost += gone ? 1 : 0;
        }
        int[] found = null;
        for (int[] code : CODE_WORDS) {
            if (2 * differing(code) + lost <= 4) {
                if (found != null) {
                    failures++;
                    System.out.println("two code words fit in the model");
                }
                found = code;
            }
        }
        return found;
    }

    private static boolean place(int p) {
        return p >= 0 && p <= 6;
    }

    private static boolean symbol(int s) {
        return s >= 0 && s <= 7;
    }

    private void hold(int[] code) {
        for (int p = 0; p < 7; p++) {
            word[p] = code[p];
            missing[p] = false;
        }
    }

    private int send(int c4, int c5, int c6) {
        for (int[] code : CODE_WORDS) {
            if (code[4] == c4 && code[5] == c5 && code[6] == c6) {
                hold(code);
                return 0;
            }
        }
        return -1;
    }

    private int change(int p, int s) {
        if (!place(p) || !symbol(s)) {
            return -1;
        }
        int before = word[p];
        word[p] = s;
        return before;
    }

    private int lose(int p, boolean on) {
        if (!place(p)) {
            return -1;
        }
        int before = missing[p] ? 1 : 0;
        missing[p] = on;
        return before;
    }

    private int mended(int p) {
        int[] code = fitting();
        return place(p) && code != null ? code[p] : -1;
    }

    private int wrong() {
        int[] code = fitting();
        return code == null ? -1 : differing(code);
    }

    private int mend() {
        int[] code = fitting();
        if (code == null) {
            return 0;
        }
        hold(code);
        return 1;
    }

    // The runs

    /** A fixed sequence: every run of the test makes the same calls. */
    private static int next(int bound) {
        state = state * 6364136223846793005L + 1442695040888963407L;
        return (int) ((state >>> 33) % bound);
    }

    private static int somePlace() {
        return next(12) == 0 ? next(2) * 8 - 1 : next(7);
    }

    private static int someSymbol() {
        return next(12) == 0 ? next(2) * 9 - 1 : next(8);
    }

    private static void due(String what, int got, int want) {
        if (got != want) {
            failures++;
            System.out.println(what + " answered " + got + ", due is " + want);
        }
    }

    private static void mixedRun(int run) {
        SymbolMender x = new SymbolMender();
        ModelTest model = new ModelTest();
        for (int call = 0; call < CALLS_PER_OBJECT; call++) {
            oneCall("run " + run + ", call " + call + ": ", x, model);
        }
    }

    private static void oneCall(String where, SymbolMender x, ModelTest model) {
        int p = somePlace();
        int s = someSymbol();
        int a = someSymbol();
        int b = someSymbol();
        boolean on = next(3) == 0;
        switch (next(16)) {
            case 0 -> due(where + "send(" + s + ", " + a + ", " + b + ")", x.send(s, a, b), model.send(s, a, b));
            case 1, 2 -> due(where + "change(" + p + ", " + s + ")", x.change(p, s), model.change(p, s));
            case 3, 4, 5 -> due(where + "lose(" + p + ", " + on + ")", x.lose(p, on), model.lose(p, on));
            case 6, 7 -> due(where + "at(" + p + ")", x.at(p), place(p) ? model.word[p] : -1);
            case 8, 9 -> due(where + "fits()", x.fits(), model.fitting() == null ? 0 : 1);
            case 10, 11 -> due(where + "mended(" + p + ")", x.mended(p), model.mended(p));
            case 12 -> due(where + "wrong()", x.wrong(), model.wrong());
            case 13 -> due(where + "mend()", x.mend(), model.mend());
            case 14 -> due(where + "product(" + a + ", " + b + ")", x.product(a, b),
                    symbol(a) && symbol(b) ? multiply(a, b) : -1);
            default -> due(where + "value(" + s + ")", x.value(s), symbol(s) ? valueOf(model.word, s) : -1);
        }
    }

    /** Every set of missing places, with 0 to 3 changed places that are not missing. */
    private static void everyLossWithHarm() {
        for (int set = 0; set < 128; set++) {
            for (int harm = 0; harm <= 3; harm++) {
                for (int turn = 0; turn < 6; turn++) {
                    lossWithHarm(set, harm);
                }
            }
        }
    }

    private static void lossWithHarm(int set, int harm) {
        SymbolMender x = new SymbolMender();
        ModelTest model = new ModelTest();
        String where = "missing set " + set + ", harm " + harm + ": ";
        int c4 = next(8);
        int c5 = next(8);
        int c6 = next(8);
        due(where + "send", x.send(c4, c5, c6), model.send(c4, c5, c6));
        int first = next(7);
        int left = harm;
        for (int step = 0; step < 7; step++) {
            int p = (first + step) % 7;
            boolean gone = (set >> p & 1) == 1;
            if (gone) {
                due(where + "lose", x.lose(p, true), model.lose(p, true));
            }
            if (gone || left > 0) {
                left -= gone ? 0 : 1;
                int s = model.word[p] ^ 1 + next(7);
                due(where + "change", x.change(p, s), model.change(p, s));
            }
        }
        due(where + "fits()", x.fits(), model.fitting() == null ? 0 : 1);
        due(where + "wrong()", x.wrong(), model.wrong());
        for (int p = 0; p < 7; p++) {
            due(where + "mended(" + p + ")", x.mended(p), model.mended(p));
        }
        due(where + "mend()", x.mend(), model.mend());
        for (int p = 0; p < 7; p++) {
            due(where + "at(" + p + ") after mend", x.at(p), model.word[p]);
            due(where + "missing " + p + " after mend", x.lose(p, false), model.lose(p, false));
        }
    }
}
