/**
 * A line that holds a word of seven symbols, of which two may be wrong, or four
 * be missing, and which can be made whole again.
 */
public final class SymbolMender {
    private static final int PLACES = 7;
    private static final int SYMBOLS = 8;
    private static final int CODE_WORDS = SYMBOLS * SYMBOLS * SYMBOLS;
    private static final int REFUSED = -1;
    private static final int NONE_FITS = -1;
    private static final int MOST_HARM = 4;

    // t^3 is replaced by t + 1: adding t^3 + t + 1 takes the bit of t^3 away.
    private static final int CUBE_BIT = 8;
    private static final int CUBE_RULE = 11;

    // (x + 2)(x + 4)(x + 3)(x + 6) = x^4 + 3 x^3 + x^2 + 2 x + 3. A word has the
    // value 0 at 2, 4, 3 and 6 just when this polynomial divides it.
    private static final int DIVISOR_0 = 3;
    private static final int DIVISOR_1 = 2;
    private static final int DIVISOR_2 = 1;
    private static final int DIVISOR_3 = 3;

    private final int[] line = new int[PLACES];
    private final boolean[] missing = new boolean[PLACES];

    // Scratch: the code word that was written last. No call relies on what an
    // earlier call left here.
    private final int[] code = new int[PLACES];

    public SymbolMender() {
    }

    public int send(int c4, int c5, int c6) {
        if (!isSymbol(c4) || !isSymbol(c5) || !isSymbol(c6)) {
            return REFUSED;
        }
        writeCodeWord(c4, c5, c6);
        putCodeWordOnLine();
        return 0;
    }

    public int change(int place, int symbol) {
        if (!isPlace(place) || !isSymbol(symbol)) {
            return REFUSED;
        }
        int before = line[place];
        line[place] = symbol;
        return before;
    }

    public int lose(int place, boolean on) {
        if (!isPlace(place)) {
            return REFUSED;
        }
        int before = missing[place] ? 1 : 0;
        missing[place] = on;
        return before;
    }

    public int at(int place) {
        return isPlace(place) ? line[place] : REFUSED;
    }

    public int fits() {
        return findFitting() == NONE_FITS ? 0 : 1;
    }

    public int mended(int place) {
        if (!isPlace(place)) {
            return REFUSED;
        }
        return findFitting() == NONE_FITS ? NONE_FITS : code[place];
    }

    public int wrong() {
        return findFitting();
    }

    public int mend() {
        if (findFitting() == NONE_FITS) {
            return 0;
        }
        putCodeWordOnLine();
        return 1;
    }

    public int product(int a, int b) {
        return isSymbol(a) && isSymbol(b) ? times(a, b) : REFUSED;
    }

    public int value(int symbol) {
        if (!isSymbol(symbol)) {
            return REFUSED;
        }
        int sum = 0;
        for (int place = PLACES - 1; place >= 0; place--) {
            sum = times(sum, symbol) ^ line[place];
        }
        return sum;
    }

    private static boolean isPlace(int place) {
        return place >= 0 && place < PLACES;
    }

    private static boolean isSymbol(int symbol) {
        return symbol >= 0 && symbol < SYMBOLS;
    }

    private static int times(int a, int b) {
        int sum = 0;
        for (int power = 2; power >= 0; power--) {
            sum <<= 1;
            if ((sum & CUBE_BIT) != 0) {
                sum ^= CUBE_RULE;
            }
            if (((b >> power) & 1) != 0) {
                sum ^= a;
            }
        }
        return sum;
    }

    // The lower four symbols are the remainder of c4 x^4 + c5 x^5 + c6 x^6 by the
    // divisor: added to it (which is also taking away), they make it divisible.
    private void writeCodeWord(int c4, int c5, int c6) {
        code[0] = 0;
        code[1] = 0;
        code[2] = 0;
        code[3] = 0;
        divideIn(c6);
        divideIn(c5);
        divideIn(c4);
        code[4] = c4;
        code[5] = c5;
        code[6] = c6;
    }

    // One step of the long division, highest symbol first.
    private void divideIn(int symbol) {
        int lead = code[3] ^ symbol;
        code[3] = code[2] ^ times(lead, DIVISOR_3);
        code[2] = code[1] ^ times(lead, DIVISOR_2);
        code[1] = code[0] ^ times(lead, DIVISOR_1);
        code[0] = times(lead, DIVISOR_0);
    }

    private void putCodeWordOnLine() {
        for (int place = 0; place < PLACES; place++) {
            line[place] = code[place];
            missing[place] = false;
        }
    }

    // Tries every code word, for there are few. Leaves the one that fits in code
    // and answers how many places of the line are wrong against it.
    private int findFitting() {
        int lost = countMissing();
        for (int index = 0; index < CODE_WORDS; index++) {
            writeCodeWord(index & 7, (index >> 3) & 7, (index >> 6) & 7);
            int differing = countDiffering();
            if (2 * differing + lost <= MOST_HARM) {
                return differing;
            }
        }
        return NONE_FITS;
    }

    private int countMissing() {
        int count = 0;
        for (int place = 0; place < PLACES; place++) {
            if (missing[place]) {
                count++;
            }
        }
        return count;
    }

    private int countDiffering() {
        int count = 0;
        for (int place = 0; place < PLACES; place++) {
            if (!missing[place] && code[place] != line[place]) {
                count++;
            }
        }
        return count;
    }
}
