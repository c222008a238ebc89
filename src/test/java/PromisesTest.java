/** Each promise of the document with ordinary inputs, its edges and wrong inputs. */
public final class PromisesTest {
    private static final int[] OUT_OF_RANGE_SYMBOLS = {-1, 8, 9, 15, 16, -8, 256, Integer.MIN_VALUE, Integer.MAX_VALUE};
    private static final int[] OUT_OF_RANGE_PLACES = {-1, 7, 8, 14, -7, 256, Integer.MIN_VALUE, Integer.MAX_VALUE};
    private static final int[] ROOTS = {2, 4, 3, 6};

    private static int failures = 0;

    public static void main(String[] args) {
        newObject();
        sendOrdinary();
        sendClearsMissing();
        sendRefused();
        changeOrdinary();
        changeKeepsMissing();
        changeRefused();
        loseOrdinary();
        loseRefused();
        atOrdinaryAndRefused();
        fitsEdges();
        mendedOrdinary();
        mendedRefused();
        wrongCounts();
        mendMends();
        mendChangesNothingIfNoneFits();
        questionsChangeNothing();
        productTable();
        productRefused();
        valueOrdinary();
        valueIgnoresMissing();
        valueRefused();
        System.out.println(failures == 0 ? "all promises hold" : failures + " checks failed");
        if (failures != 0) {
            System.exit(1);
        }
    }

    private static void due(String what, int got, int want) {
        if (got != want) {
            failures++;
            System.out.println(what + " answered " + got + ", due is " + want);
        }
    }

    private static void dueWord(String what, SymbolMender x, int... want) {
        for (int place = 0; place < 7; place++) {
            due(what + ": at(" + place + ")", x.at(place), want[place]);
        }
    }

    /** Asks each place whether it is missing and leaves it as it was. */
    private static void dueMissing(String what, SymbolMender x, int... want) {
        for (int place = 0; place < 7; place++) {
            int was = x.lose(place, false);
            due(what + ": missing " + place, was, want[place]);
            x.lose(place, was == 1);
        }
    }

    /** The word 0 2 0 1 1 2 3 with places 1 and 6 missing and place 4 wrong. */
    private static SymbolMender harmed() {
        SymbolMender x = new SymbolMender();
        x.send(1, 2, 3);
        x.lose(1, true);
        x.lose(6, true);
        x.change(4, 7);
        return x;
    }

    private static void dueHarmed(String what, SymbolMender x) {
        dueWord(what, x, 0, 2, 0, 1, 7, 2, 3);
        dueMissing(what, x, 0, 1, 0, 0, 0, 0, 1);
    }

    // Promise 1

    private static void newObject() {
        SymbolMender x = new SymbolMender();
        dueWord("new", x, 0, 0, 0, 0, 0, 0, 0);
        dueMissing("new", x, 0, 0, 0, 0, 0, 0, 0);
        due("new: fits()", x.fits(), 1);
        due("new: wrong()", x.wrong(), 0);
        SymbolMender other = new SymbolMender();
        other.send(7, 6, 5);
        other.lose(3, true);
        dueWord("beside another", x, 0, 0, 0, 0, 0, 0, 0);
        dueMissing("beside another", x, 0, 0, 0, 0, 0, 0, 0);
    }

    // Promise 2

    private static void sendOrdinary() {
        for (int index = 0; index < 512; index++) {
            int c4 = index / 64;
            int c5 = index / 8 % 8;
            int c6 = index % 8;
            String call = "send(" + c4 + ", " + c5 + ", " + c6 + ")";
            SymbolMender x = new SymbolMender();
            due(call, x.send(c4, c5, c6), 0);
            due(call + ": at(4)", x.at(4), c4);
            due(call + ": at(5)", x.at(5), c5);
            due(call + ": at(6)", x.at(6), c6);
            for (int root : ROOTS) {
                due(call + ": value(" + root + ")", x.value(root), 0);
            }
        }
        SymbolMender x = new SymbolMender();
        x.send(1, 2, 3);
        dueWord("send(1, 2, 3)", x, 0, 2, 0, 1, 1, 2, 3);
        x.send(7, 7, 7);
        dueWord("send(7, 7, 7)", x, 7, 7, 7, 7, 7, 7, 7);
        x.send(0, 0, 0);
        dueWord("send(0, 0, 0)", x, 0, 0, 0, 0, 0, 0, 0);
    }

    private static void sendClearsMissing() {
        SymbolMender x = new SymbolMender();
        for (int place = 0; place < 7; place++) {
            x.lose(place, true);
        }
        due("send over missing", x.send(1, 2, 3), 0);
        dueMissing("send over missing", x, 0, 0, 0, 0, 0, 0, 0);
        dueWord("send over missing", x, 0, 2, 0, 1, 1, 2, 3);
    }

    private static void sendRefused() {
        SymbolMender x = harmed();
        for (int bad : OUT_OF_RANGE_SYMBOLS) {
            due("send(" + bad + ", 0, 0)", x.send(bad, 0, 0), -1);
            due("send(0, " + bad + ", 0)", x.send(0, bad, 0), -1);
            due("send(0, 0, " + bad + ")", x.send(0, 0, bad), -1);
        }
        dueHarmed("send refused", x);
    }

    // Promise 3

    private static void changeOrdinary() {
        for (int place = 0; place < 7; place++) {
            SymbolMender x = new SymbolMender();
            int before = 0;
            for (int symbol = 7; symbol >= 0; symbol--) {
                due("change(" + place + ", " + symbol + ")", x.change(place, symbol), before);
                due("changed at(" + place + ")", x.at(place), symbol);
                due("changed to the same", x.change(place, symbol), symbol);
                before = symbol;
            }
            dueWord("changed back", x, 0, 0, 0, 0, 0, 0, 0);
        }
    }

    private static void changeKeepsMissing() {
        SymbolMender x = harmed();
        due("change of a missing place", x.change(1, 5), 2);
        due("change of a place not missing", x.change(0, 5), 0);
        dueWord("change keeps missing", x, 5, 5, 0, 1, 7, 2, 3);
        dueMissing("change keeps missing", x, 0, 1, 0, 0, 0, 0, 1);
    }

    private static void changeRefused() {
        SymbolMender x = harmed();
        for (int bad : OUT_OF_RANGE_PLACES) {
            due("change(" + bad + ", 5)", x.change(bad, 5), -1);
        }
        for (int bad : OUT_OF_RANGE_SYMBOLS) {
            due("change(2, " + bad + ")", x.change(2, bad), -1);
            due("change(1, " + bad + ")", x.change(1, bad), -1);
            due("change(7, " + bad + ")", x.change(7, bad), -1);
        }
        dueHarmed("change refused", x);
    }

    // Promise 4

    private static void loseOrdinary() {
        for (int place = 0; place < 7; place++) {
            SymbolMender x = new SymbolMender();
            String what = "lose at " + place;
            x.send(1, 2, 3);
            due(what + " off, was off", x.lose(place, false), 0);
            due(what + " on, was off", x.lose(place, true), 0);
            due(what + " on, was on", x.lose(place, true), 1);
            int[] want = new int[7];
            want[place] = 1;
            dueMissing(what, x, want);
            dueWord(what, x, 0, 2, 0, 1, 1, 2, 3);
            due(what + " off, was on", x.lose(place, false), 1);
            due(what + " off again", x.lose(place, false), 0);
            dueMissing(what, x, 0, 0, 0, 0, 0, 0, 0);
        }
    }

    private static void loseRefused() {
        SymbolMender x = harmed();
        for (int bad : OUT_OF_RANGE_PLACES) {
            due("lose(" + bad + ", true)", x.lose(bad, true), -1);
            due("lose(" + bad + ", false)", x.lose(bad, false), -1);
        }
        dueHarmed("lose refused", x);
    }

    // Promise 5

    private static void atOrdinaryAndRefused() {
        SymbolMender x = harmed();
        dueWord("at", x, 0, 2, 0, 1, 7, 2, 3);
        for (int bad : OUT_OF_RANGE_PLACES) {
            due("at(" + bad + ")", x.at(bad), -1);
        }
        dueHarmed("at changes nothing", x);
    }

    // Promise 6

    /** Harms the zero word at as many places as told: missing ones first, then wrong ones. */
    private static SymbolMender zeroHarmed(int lost, int differing) {
        SymbolMender x = new SymbolMender();
        for (int place = 0; place < lost + differing; place++) {
            if (place < lost) {
                x.lose(place, true);
            } else {
                x.change(place, 1);
            }
        }
        return x;
    }

    private static void fitsEdges() {
        due("0 missing, 2 wrong", zeroHarmed(0, 2).fits(), 1);
        due("0 missing, 3 wrong", zeroHarmed(0, 3).fits(), 0);
        due("1 missing, 1 wrong", zeroHarmed(1, 1).fits(), 1);
        due("1 missing, 2 wrong", zeroHarmed(1, 2).fits(), 0);
        due("2 missing, 1 wrong", zeroHarmed(2, 1).fits(), 1);
        due("3 missing, 0 wrong", zeroHarmed(3, 0).fits(), 1);
        due("3 missing, 1 wrong", zeroHarmed(3, 1).fits(), 0);
        due("4 missing, 0 wrong", zeroHarmed(4, 0).fits(), 1);
        due("5 missing, 0 wrong", zeroHarmed(5, 0).fits(), 0);
        due("6 missing, 0 wrong", zeroHarmed(6, 0).fits(), 0);
        due("7 missing, 0 wrong", zeroHarmed(7, 0).fits(), 0);
    }

    // Promise 7

    private static void mendedOrdinary() {
        int[] whole = {0, 2, 0, 1, 1, 2, 3};
        SymbolMender x = harmed();
        x.change(1, 6);
        x.change(6, 0);
        for (int place = 0; place < 7; place++) {
            due("mended(" + place + ")", x.mended(place), whole[place]);
        }
        dueWord("mended changes nothing", x, 0, 6, 0, 1, 7, 2, 0);
        dueMissing("mended changes nothing", x, 0, 1, 0, 0, 0, 0, 1);
    }

    private static void mendedRefused() {
        SymbolMender x = harmed();
        for (int bad : OUT_OF_RANGE_PLACES) {
            due("mended(" + bad + ")", x.mended(bad), -1);
        }
        x.lose(0, true);
        for (int place = 0; place < 7; place++) {
            due("none fits: mended(" + place + ")", x.mended(place), -1);
        }
        due("none fits: mended(7)", x.mended(7), -1);
    }

    // Promise 8

    private static void wrongCounts() {
        due("0 missing, 0 wrong", zeroHarmed(0, 0).wrong(), 0);
        due("0 missing, 1 wrong", zeroHarmed(0, 1).wrong(), 1);
        due("0 missing, 2 wrong", zeroHarmed(0, 2).wrong(), 2);
        due("0 missing, 3 wrong", zeroHarmed(0, 3).wrong(), -1);
        due("2 missing, 1 wrong", zeroHarmed(2, 1).wrong(), 1);
        due("3 missing, 1 wrong", zeroHarmed(3, 1).wrong(), -1);
        due("4 missing, 0 wrong", zeroHarmed(4, 0).wrong(), 0);
        due("5 missing, 0 wrong", zeroHarmed(5, 0).wrong(), -1);
        SymbolMender x = harmed();
        due("a missing place is not counted", x.wrong(), 1);
        x.change(1, 7);
        due("a changed missing place is not counted", x.wrong(), 1);
    }

    // Promise 9

    private static void mendMends() {
        SymbolMender x = harmed();
        x.change(1, 6);
        due("mend()", x.mend(), 1);
        dueWord("mend()", x, 0, 2, 0, 1, 1, 2, 3);
        dueMissing("mend()", x, 0, 0, 0, 0, 0, 0, 0);
        due("mend() of a whole word", x.mend(), 1);
        dueWord("mend() of a whole word", x, 0, 2, 0, 1, 1, 2, 3);
    }

    private static void mendChangesNothingIfNoneFits() {
        SymbolMender x = harmed();
        x.lose(0, true);
        due("none fits: mend()", x.mend(), 0);
        dueWord("none fits: mend()", x, 0, 2, 0, 1, 7, 2, 3);
        dueMissing("none fits: mend()", x, 1, 1, 0, 0, 0, 0, 1);
    }

    private static void questionsChangeNothing() {
        SymbolMender x = harmed();
        x.fits();
        x.wrong();
        x.mended(4);
        x.value(5);
        x.product(6, 7);
        dueHarmed("questions", x);
    }

    // Promise 10

    /** The powers of 2, told by hand: the product adds exponents modulo 7. */
    private static final int[] POWERS = {1, 2, 4, 3, 6, 7, 5};

    private static void productTable() {
        SymbolMender x = new SymbolMender();
        for (int a = 0; a < 8; a++) {
            due("product(" + a + ", 0)", x.product(a, 0), 0);
            due("product(0, " + a + ")", x.product(0, a), 0);
        }
        for (int i = 0; i < 7; i++) {
            for (int j = 0; j < 7; j++) {
                String call = "product(" + POWERS[i] + ", " + POWERS[j] + ")";
                due(call, x.product(POWERS[i], POWERS[j]), POWERS[(i + j) % 7]);
            }
        }
    }

    private static void productRefused() {
        SymbolMender x = harmed();
        for (int bad : OUT_OF_RANGE_SYMBOLS) {
            due("product(" + bad + ", 1)", x.product(bad, 1), -1);
            due("product(1, " + bad + ")", x.product(1, bad), -1);
            due("product(" + bad + ", 0)", x.product(bad, 0), -1);
            due("product(0, " + bad + ")", x.product(0, bad), -1);
            due("product(" + bad + ", " + bad + ")", x.product(bad, bad), -1);
        }
        dueHarmed("product refused", x);
    }

    // Promise 11

    private static void valueOrdinary() {
        for (int place = 0; place < 7; place++) {
            SymbolMender x = new SymbolMender();
            x.change(place, 1);
            due("value(0) of place " + place, x.value(0), place == 0 ? 1 : 0);
            for (int i = 0; i < 7; i++) {
                String what = "value(" + POWERS[i] + ") of place " + place;
                due(what, x.value(POWERS[i]), POWERS[i * place % 7]);
            }
        }
        SymbolMender x = new SymbolMender();
        x.send(1, 2, 3);
        due("value(1) of 0 2 0 1 1 2 3", x.value(1), 3);
        x.change(0, 5);
        due("value(0) is c0", x.value(0), 5);
        due("value(1) is the sum", x.value(1), 6);
    }

    private static void valueIgnoresMissing() {
        SymbolMender x = new SymbolMender();
        x.send(0, 0, 1);
        for (int place = 0; place < 7; place++) {
            x.lose(place, true);
        }
        due("all missing: value(0)", x.value(0), 7);
        due("all missing: value(1)", x.value(1), 7);
        due("all missing: value(5)", x.value(5), 3);
        due("all missing: value(2)", x.value(2), 0);
    }

    private static void valueRefused() {
        SymbolMender x = harmed();
        for (int bad : OUT_OF_RANGE_SYMBOLS) {
            due("value(" + bad + ")", x.value(bad), -1);
        }
        dueHarmed("value refused", x);
    }
}
