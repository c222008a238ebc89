import java.util.Arrays;

/**
 * Each sentence of the document that names a boundary case has a test of its
 * own here. The sentence stands above the test, and its test's name stands in
 * front of every answer that is not due.
 */
public final class BoundaryTest {
    private static final int LAST_CALL = 512;
    private static final int ALL_PLACES = 127;
    private static final int[] TOO_SMALL = {-1, -2, -7, -8, -249, -256, -65536, Integer.MIN_VALUE + 1, Integer.MIN_VALUE};
    private static final int[] PLACES_TOO_LARGE = {7, 8, 13, 14, 256, 65536, 1 << 30, Integer.MAX_VALUE};
    private static final int[] SYMBOLS_TOO_LARGE = {8, 9, 11, 15, 16, 256, 65536, 1 << 30, Integer.MAX_VALUE};

    private static final int[] WHOLE = {0, 2, 0, 1, 1, 2, 3};
    private static final int[] ZEROS = new int[7];

    private static final Line START = new Line("at the start", ZEROS, ZEROS, ZEROS, 0);
    private static final Line SENT = new Line("sent", WHOLE, ZEROS, WHOLE, 0);
    private static final Line TWO_WRONG = new Line("two wrong", row(5, 2, 0, 1, 7, 2, 3), ZEROS, WHOLE, 2);
    private static final Line MIXED =
            new Line("two missing, one wrong", row(0, 6, 0, 1, 7, 2, 0), row(0, 1, 0, 0, 0, 0, 1), WHOLE, 1);
    private static final Line FOUR_MISSING =
            new Line("four missing", row(7, 2, 7, 1, 7, 2, 7), row(1, 0, 1, 0, 1, 0, 1), WHOLE, 0);
    private static final Line FOUR_MISSING_BUT_RIGHT =
            new Line("four missing, all right", WHOLE, row(1, 0, 1, 0, 1, 0, 1), WHOLE, 0);
    private static final Line FIVE_MISSING =
            new Line("five missing", WHOLE, row(1, 1, 1, 0, 1, 0, 1), null, -1);
    private static final Line THREE_MISSING_ONE_WRONG =
            new Line("three missing, one wrong", row(0, 6, 0, 1, 7, 2, 0), row(1, 1, 0, 0, 0, 0, 1), null, -1);
    private static final Line THREE_WRONG = new Line("three wrong", row(1, 1, 1, 0, 0, 0, 0), ZEROS, null, -1);
    private static final Line ALL_MISSING =
            new Line("all missing", row(1, 2, 3, 4, 5, 6, 7), row(1, 1, 1, 1, 1, 1, 1), null, -1);

    private static final Line[] FITTING = {START, SENT, TWO_WRONG, MIXED, FOUR_MISSING, FOUR_MISSING_BUT_RIGHT};
    private static final Line[] NOT_FITTING = {FIVE_MISSING, THREE_MISSING_ONE_WRONG, THREE_WRONG, ALL_MISSING};

    private static String test = "";
    private static int tests = 0;
    private static int failures = 0;

    public static void main(String[] args) {
        whatItIs();
        terms();
        promises();
        System.out.println(failures == 0 ? tests + " boundary cases hold" : failures + " answers are not due");
        if (failures != 0) {
            System.exit(1);
        }
    }

    private static void whatItIs() {
        run("everyCallUpToThe512th", BoundaryTest::everyCallUpToThe512th);
        run("refusedCallsUpToThe512th", BoundaryTest::refusedCallsUpToThe512th);
        run("anyMethodAsThe512thCall", BoundaryTest::anyMethodAsThe512thCall);
    }

    private static void terms() {
        run("smallestAndLargestSymbol", BoundaryTest::smallestAndLargestSymbol);
        run("sumsAreExclusiveOr", BoundaryTest::sumsAreExclusiveOr);
        run("cubeIsReplaced", BoundaryTest::cubeIsReplaced);
        run("fourthPowerIsReplaced", BoundaryTest::fourthPowerIsReplaced);
        run("zerothPowerIsOne", BoundaryTest::zerothPowerIsOne);
        run("sixthPowerIsTheLast", BoundaryTest::sixthPowerIsTheLast);
        run("allFourValuesAreZero", BoundaryTest::allFourValuesAreZero);
        run("oneCodeWordForEachChoice", BoundaryTest::oneCodeWordForEachChoice);
        run("wordIsZeroAtTheStart", BoundaryTest::wordIsZeroAtTheStart);
        run("noneIsMissingAtTheStart", BoundaryTest::noneIsMissingAtTheStart);
        run("firstAndLastPlace", BoundaryTest::firstAndLastPlace);
        run("harmOfFourFits", BoundaryTest::harmOfFourFits);
        run("harmOfFiveDoesNotFit", BoundaryTest::harmOfFiveDoesNotFit);
        run("placeTooSmall", () -> placesRefused(TOO_SMALL));
        run("placeTooLarge", () -> placesRefused(PLACES_TOO_LARGE));
        run("symbolTooSmall", () -> symbolsRefused(TOO_SMALL));
        run("symbolTooLarge", () -> symbolsRefused(SYMBOLS_TOO_LARGE));
    }

    private static void promises() {
        run("newObjectIsItsOwn", BoundaryTest::newObjectIsItsOwn);
        run("sendOverAnyLine", BoundaryTest::sendOverAnyLine);
        run("sendRefused", BoundaryTest::sendRefused);
        run("changeOfAMissingPlace", BoundaryTest::changeOfAMissingPlace);
        run("changeToTheSameSymbol", BoundaryTest::changeToTheSameSymbol);
        run("changeRefused", BoundaryTest::changeRefused);
        run("loseWhatIsLost", BoundaryTest::loseWhatIsLost);
        run("loseRefused", BoundaryTest::loseRefused);
        run("atAMissingPlace", BoundaryTest::atAMissingPlace);
        run("atRefused", BoundaryTest::atRefused);
        run("fitsOrNot", BoundaryTest::fitsOrNot);
        run("mendedAtAMissingPlace", BoundaryTest::mendedAtAMissingPlace);
        run("mendedIfNoneFits", BoundaryTest::mendedIfNoneFits);
        run("mendedRefused", BoundaryTest::mendedRefused);
        run("wrongLeavesOutMissingPlaces", BoundaryTest::wrongLeavesOutMissingPlaces);
        run("wrongIfNoneFits", BoundaryTest::wrongIfNoneFits);
        run("mendLeavesNoPlaceMissing", BoundaryTest::mendLeavesNoPlaceMissing);
        run("mendIfNoneFits", BoundaryTest::mendIfNoneFits);
        run("productRefused", BoundaryTest::productRefused);
        run("valueWhateverIsMissing", BoundaryTest::valueWhateverIsMissing);
        run("valueRefused", BoundaryTest::valueRefused);
    }

    // Means

    private interface Call {
        int on(SymbolMender x);
    }

    /** What a line holds; whole is the code word that fits it, or null, and wrong what wrong() answers. */
    private record Line(String name, int[] word, int[] missing, int[] whole, int wrong) {
        SymbolMender make() {
            SymbolMender x = new SymbolMender();
            for (int place = 0; place < 7; place++) {
                x.change(place, word[place]);
                x.lose(place, missing[place] == 1);
            }
            return x;
        }

        void expectOn(SymbolMender x, String after) {
            String what = name + ", after " + after + ": ";
            for (int place = 0; place < 7; place++) {
                due(what + "at(" + place + ")", x.at(place), word[place]);
                due(what + "mended(" + place + ")", x.mended(place), whole == null ? -1 : whole[place]);
            }
            due(what + "fits()", x.fits(), whole == null ? 0 : 1);
            due(what + "wrong()", x.wrong(), wrong);
            for (int place = 0; place < 7; place++) {
                boolean on = missing[place] == 1;
                due(what + "lose(" + place + ", " + on + ")", x.lose(place, on), missing[place]);
            }
        }
    }

    private static int[] row(int... symbols) {
        return symbols;
    }

    private static void run(String name, Runnable body) {
        test = name;
        tests++;
        try {
            body.run();
        } catch (RuntimeException thrown) {
            // No call may ever throw; the tests after this one are still run.
            failures++;
            System.out.println(test + ": a call threw " + thrown);
        }
    }

    private static void due(String what, int got, int want) {
        if (got != want) {
            failures++;
            System.out.println(test + ": " + what + " answered " + got + ", due is " + want);
        }
    }

    private static void refused(String name, Call call) {
        for (Line line : FITTING) {
            refusedOn(line, name, call);
        }
        for (Line line : NOT_FITTING) {
            refusedOn(line, name, call);
        }
    }

    private static void refusedOn(Line line, String name, Call call) {
        SymbolMender x = line.make();
        due(line.name() + ": " + name, call.on(x), -1);
        line.expectOn(x, name);
    }

    private static int[] allOutOfRange(int[] tooLarge) {
        int[] all = Arrays.copyOf(TOO_SMALL, TOO_SMALL.length + tooLarge.length);
        System.arraycopy(tooLarge, 0, all, TOO_SMALL.length, tooLarge.length);
        return all;
    }

    // "An object is used for at most 512 calls after it has been made": all 512 answer as due.

    private static void everyCallUpToThe512th() {
        repeat("send(1, 2, 3)", SENT, x -> x.send(1, 2, 3), 0, SENT);
        repeat("change(4, 7)", MIXED, x -> x.change(4, 7), 7, MIXED);
        repeat("lose(6, true)", MIXED, x -> x.lose(6, true), 1, MIXED);
        repeat("at(4)", MIXED, x -> x.at(4), 7, MIXED);
        repeat("fits()", MIXED, x -> x.fits(), 1, MIXED);
        repeat("mended(4)", MIXED, x -> x.mended(4), 1, MIXED);
        repeat("wrong()", MIXED, x -> x.wrong(), 1, MIXED);
        repeat("mend()", SENT, x -> x.mend(), 1, SENT);
        repeat("mend()", ALL_MISSING, x -> x.mend(), 0, ALL_MISSING);
        repeat("product(7, 7)", MIXED, x -> x.product(7, 7), 3, MIXED);
        repeat("value(1)", SENT, x -> x.value(1), 3, SENT);
    }

    private static void refusedCallsUpToThe512th() {
        repeat("send(8, 0, 0)", MIXED, x -> x.send(8, 0, 0), -1, MIXED);
        repeat("change(7, 0)", MIXED, x -> x.change(7, 0), -1, MIXED);
        repeat("lose(-1, true)", MIXED, x -> x.lose(-1, true), -1, MIXED);
        repeat("at(7)", MIXED, x -> x.at(7), -1, MIXED);
        repeat("mended(-1)", MIXED, x -> x.mended(-1), -1, MIXED);
        repeat("product(0, 8)", MIXED, x -> x.product(0, 8), -1, MIXED);
        repeat("value(-1)", MIXED, x -> x.value(-1), -1, MIXED);
    }

    /** The same call again and again: 14 calls make the line, and 23 at the end look at it. */
    private static void repeat(String name, Line before, Call call, int want, Line after) {
        SymbolMender x = before.make();
        for (int made = 14; made < LAST_CALL - 23; made++) {
            due(before.name() + ": call " + (made + 1) + ", " + name, call.on(x), want);
        }
        after.expectOn(x, name);
    }

    private static void anyMethodAsThe512thCall() {
        last("send(0, 0, 0)", x -> x.send(0, 0, 0), 0);
        last("send(0, 0, 8)", x -> x.send(0, 0, 8), -1);
        last("change(4, 0)", x -> x.change(4, 0), 7);
        last("change(7, 0)", x -> x.change(7, 0), -1);
        last("lose(6, false)", x -> x.lose(6, false), 1);
        last("lose(7, false)", x -> x.lose(7, false), -1);
        last("at(4)", x -> x.at(4), 7);
        last("at(7)", x -> x.at(7), -1);
        last("fits()", x -> x.fits(), 1);
        last("mended(4)", x -> x.mended(4), 1);
        last("mended(7)", x -> x.mended(7), -1);
        last("wrong()", x -> x.wrong(), 1);
        last("mend()", x -> x.mend(), 1);
        last("product(7, 7)", x -> x.product(7, 7), 3);
        last("product(7, 8)", x -> x.product(7, 8), -1);
        last("value(0)", x -> x.value(0), 0);
        last("value(8)", x -> x.value(8), -1);
    }

    private static void last(String name, Call call, int want) {
        SymbolMender x = MIXED.make();
        for (int made = 14; made < LAST_CALL - 1; made++) {
            due("call " + (made + 1) + ", at(6)", x.at(6), 0);
        }
        due("call 512, " + name, call.on(x), want);
    }

    // "SYMBOLS are 0 to 7."

    private static void smallestAndLargestSymbol() {
        SymbolMender x = new SymbolMender();
        due("send(7, 7, 7)", x.send(7, 7, 7), 0);
        new Line("seven sevens", row(7, 7, 7, 7, 7, 7, 7), ZEROS, row(7, 7, 7, 7, 7, 7, 7), 0).expectOn(x, "send(7, 7, 7)");
        due("change(3, 0)", x.change(3, 0), 7);
        due("change(3, 7)", x.change(3, 7), 0);
        due("at(3)", x.at(3), 7);
        due("value(0)", x.value(0), 7);
        due("value(7)", x.value(7), 0);
        due("product(0, 0)", x.product(0, 0), 0);
        due("product(0, 7)", x.product(0, 7), 0);
        due("product(7, 0)", x.product(7, 0), 0);
        due("product(7, 7)", x.product(7, 7), 3);
        due("send(0, 0, 0)", x.send(0, 0, 0), 0);
        START.expectOn(x, "send(0, 0, 0)");
    }

    // "They are added by exclusive-or, bit by bit": nothing is carried and nothing grows past 7.

    private static void sumsAreExclusiveOr() {
        for (int a = 0; a < 8; a++) {
            for (int b = 0; b < 8; b++) {
                SymbolMender x = new SymbolMender();
                x.change(0, a);
                x.change(6, b);
                due("value(1) of " + a + " 0 0 0 0 0 " + b, x.value(1), a ^ b);
            }
        }
    }

    // "with t^3 replaced by t + 1": the products whose highest power is t^3.

    private static void cubeIsReplaced() {
        SymbolMender x = new SymbolMender();
        due("product(2, 4)", x.product(2, 4), 3);
        due("product(4, 2)", x.product(4, 2), 3);
        due("product(2, 5)", x.product(2, 5), 1);
        due("product(2, 6)", x.product(2, 6), 7);
        due("product(2, 7)", x.product(2, 7), 5);
        due("product(3, 4)", x.product(3, 4), 7);
        due("product(3, 5)", x.product(3, 5), 4);
        due("product(3, 6)", x.product(3, 6), 1);
        due("product(3, 7)", x.product(3, 7), 2);
        due("product(3, 3), without t^3", x.product(3, 3), 5);
    }

    // "and t^4 by t^2 + t": the products whose highest power is t^4.

    private static void fourthPowerIsReplaced() {
        SymbolMender x = new SymbolMender();
        due("product(4, 4)", x.product(4, 4), 6);
        due("product(4, 5)", x.product(4, 5), 2);
        due("product(4, 6)", x.product(4, 6), 5);
        due("product(4, 7)", x.product(4, 7), 1);
        due("product(5, 5)", x.product(5, 5), 7);
        due("product(5, 6)", x.product(5, 6), 3);
        due("product(5, 7)", x.product(5, 7), 6);
        due("product(6, 6)", x.product(6, 6), 2);
        due("product(6, 7)", x.product(6, 7), 4);
        due("product(7, 7)", x.product(7, 7), 3);
    }

    // "(powers by products; s^0 is 1)": also for s = 0.

    private static void zerothPowerIsOne() {
        for (int symbol = 0; symbol < 8; symbol++) {
            SymbolMender x = new SymbolMender();
            x.change(0, symbol);
            for (int s = 0; s < 8; s++) {
                due("value(" + s + ") of " + symbol + " 0 0 0 0 0 0", x.value(s), symbol);
            }
        }
    }

    // "c0 + c1 s + c2 s^2 + ... + c6 s^6": the last place counts, with the sixth power.

    private static void sixthPowerIsTheLast() {
        int[] sixthPowers = {0, 1, 5, 6, 7, 2, 3, 4};
        SymbolMender x = new SymbolMender();
        x.change(6, 1);
        for (int s = 0; s < 8; s++) {
            due("value(" + s + ") of 0 0 0 0 0 0 1", x.value(s), sixthPowers[s]);
        }
    }

    // "A word is a CODE WORD if its values at 2, 4, 3 and 6 are all 0.": three of them are not
    // enough. Each of these words has the value 0 at three of the four, and no code word is near.

    private static void allFourValuesAreZero() {
        valueIsNotZeroAt(2, row(4, 3, 1, 1, 0, 0, 0));
        valueIsNotZeroAt(4, row(2, 0, 7, 1, 0, 0, 0));
        valueIsNotZeroAt(3, row(1, 1, 0, 1, 0, 0, 0));
        valueIsNotZeroAt(6, row(5, 2, 5, 1, 0, 0, 0));
    }

    private static void valueIsNotZeroAt(int other, int[] word) {
        Line line = new Line("not 0 at " + other + " alone", word, ZEROS, null, -1);
        SymbolMender x = line.make();
        for (int s : row(2, 4, 3, 6)) {
            due(line.name() + ": value(" + s + ") is 0", x.value(s) == 0 ? 1 : 0, s == other ? 0 : 1);
        }
        line.expectOn(x, "value");
    }

    // "(For each choice of c4, c5 and c6 there is exactly one code word.)": from 0 0 0 to 7 7 7 each
    // is sent, and found again when all three are wrong or missing.

    private static void oneCodeWordForEachChoice() {
        for (int index = 0; index < 512; index++) {
            int[] choice = row(index >> 6, index >> 3 & 7, index & 7);
            String name = "send(" + choice[0] + ", " + choice[1] + ", " + choice[2] + ")";
            SymbolMender x = new SymbolMender();
            due(name, x.send(choice[0], choice[1], choice[2]), 0);
            x.lose(4, true);
            x.lose(5, true);
            x.change(6, choice[2] ^ 1 + index % 7);
            due(name + ": wrong()", x.wrong(), 1);
            for (int place = 4; place < 7; place++) {
                due(name + ": mended(" + place + ")", x.mended(place), choice[place - 4]);
            }
            due(name + ": mend()", x.mend(), 1);
            for (int root : row(2, 4, 3, 6)) {
                due(name + ": value(" + root + ")", x.value(root), 0);
            }
        }
    }

    // "THE LINE holds a word (all 0 at the start)"

    private static void wordIsZeroAtTheStart() {
        for (int place = 0; place < 7; place++) {
            due("new: at(" + place + ")", new SymbolMender().at(place), 0);
            due("new: change(" + place + ", 7)", new SymbolMender().change(place, 7), 0);
            due("new: mended(" + place + ")", new SymbolMender().mended(place), 0);
        }
        for (int s = 0; s < 8; s++) {
            due("new: value(" + s + ")", new SymbolMender().value(s), 0);
        }
    }

    // "(none is at the start)"

    private static void noneIsMissingAtTheStart() {
        for (int place = 0; place < 7; place++) {
            due("new: lose(" + place + ", true)", new SymbolMender().lose(place, true), 0);
            due("new: lose(" + place + ", false)", new SymbolMender().lose(place, false), 0);
        }
        due("new: fits()", new SymbolMender().fits(), 1);
        due("new: wrong()", new SymbolMender().wrong(), 0);
        due("new: mend()", new SymbolMender().mend(), 1);
    }

    // "each place 0 to 6"

    private static void firstAndLastPlace() {
        SymbolMender x = SENT.make();
        due("at(0)", x.at(0), 0);
        due("at(6)", x.at(6), 3);
        due("change(0, 7)", x.change(0, 7), 0);
        due("change(6, 7)", x.change(6, 7), 3);
        due("mended(0)", x.mended(0), 0);
        due("mended(6)", x.mended(6), 3);
        due("wrong()", x.wrong(), 2);
        due("lose(0, true)", x.lose(0, true), 0);
        due("lose(6, true)", x.lose(6, true), 0);
        new Line("first and last", row(7, 2, 0, 1, 1, 2, 7), row(1, 0, 0, 0, 0, 0, 1), WHOLE, 0).expectOn(x, "lose(6, true)");
    }

    // "A code word FITS the line if 2 times the number of places that are not missing where it
    // differs from the line's word, plus the number of missing places, is at most 4."
    // "(At most one code word fits.)" Every choice of missing and differing places that comes to
    // 4, and every one that comes to 5: there no other code word is near enough to fit either.

    private static void harmOfFourFits() {
        due("choices of places", everyHarmOf(4), 35 + 21 * 5 + 21);
    }

    private static void harmOfFiveDoesNotFit() {
        due("choices of places", everyHarmOf(5), 21 + 35 * 4 + 7 * 15);
    }

    private static int everyHarmOf(int harm) {
        int choices = 0;
        for (int lost = 0; lost <= ALL_PLACES; lost++) {
            for (int differing = 0; differing <= ALL_PLACES; differing++) {
                boolean apart = (lost & differing) == 0;
                if (apart && 2 * Integer.bitCount(differing) + Integer.bitCount(lost) == harm) {
                    harmed(lost, differing, harm <= 4);
                    choices++;
                }
            }
        }
        return choices;
    }

    private static void harmed(int lost, int differing, boolean fits) {
        int[] word = new int[7];
        int[] missing = new int[7];
        for (int place = 0; place < 7; place++) {
            missing[place] = lost >> place & 1;
            boolean touched = ((lost | differing) >> place & 1) == 1;
            word[place] = touched ? WHOLE[place] ^ 1 + (lost + 3 * differing + place) % 7 : WHOLE[place];
        }
        int wrong = fits ? Integer.bitCount(differing) : -1;
        Line line = new Line(Arrays.toString(word) + " missing " + Arrays.toString(missing),
                word, missing, fits ? WHOLE : null, wrong);
        SymbolMender x = line.make();
        line.expectOn(x, "harm");
        due(line.name() + ": mend()", x.mend(), fits ? 1 : 0);
        (fits ? SENT : line).expectOn(x, "mend()");
    }

    // "A place or symbol out of range is refused: the call answers -1 and changes nothing."

    private static void placesRefused(int[] places) {
        for (int place : places) {
            refused("change(" + place + ", 5)", x -> x.change(place, 5));
            refused("lose(" + place + ", true)", x -> x.lose(place, true));
            refused("lose(" + place + ", false)", x -> x.lose(place, false));
            refused("at(" + place + ")", x -> x.at(place));
            refused("mended(" + place + ")", x -> x.mended(place));
        }
    }

    private static void symbolsRefused(int[] symbols) {
        for (int symbol : symbols) {
            refused("send(" + symbol + ", 5, 5)", x -> x.send(symbol, 5, 5));
            refused("send(5, " + symbol + ", 5)", x -> x.send(5, symbol, 5));
            refused("send(5, 5, " + symbol + ")", x -> x.send(5, 5, symbol));
            refused("change(3, " + symbol + ")", x -> x.change(3, symbol));
            refused("product(" + symbol + ", 5)", x -> x.product(symbol, 5));
            refused("product(5, " + symbol + ")", x -> x.product(5, symbol));
            refused("value(" + symbol + ")", x -> x.value(symbol));
        }
    }

    // Promise 1: "As said above.": also beside an object that is used.

    private static void newObjectIsItsOwn() {
        SymbolMender first = new SymbolMender();
        SymbolMender second = MIXED.make();
        START.expectOn(first, "use of another");
        START.expectOn(new SymbolMender(), "use of another");
        MIXED.expectOn(second, "looking at another");
        first.send(7, 7, 7);
        MIXED.expectOn(second, "send on another");
    }

    // Promise 2: "The line holds the code word with these c4, c5 and c6, with no place missing.":
    // whatever the line held, however much was missing.

    private static void sendOverAnyLine() {
        for (Line line : FITTING) {
            sendOver(line);
        }
        for (Line line : NOT_FITTING) {
            sendOver(line);
        }
    }

    private static void sendOver(Line line) {
        SymbolMender x = line.make();
        due(line.name() + ": send(1, 2, 3)", x.send(1, 2, 3), 0);
        SENT.expectOn(x, "send over " + line.name());
    }

    // Promise 2: "Answers 0, or -1.": each of the three alone, two of them, and all.

    private static void sendRefused() {
        for (int bad : allOutOfRange(SYMBOLS_TOO_LARGE)) {
            for (int which = 1; which < 8; which++) {
                int c4 = (which & 1) != 0 ? bad : 7;
                int c5 = (which & 2) != 0 ? bad : 0;
                int c6 = (which & 4) != 0 ? bad : 7;
                String name = "send(" + c4 + ", " + c5 + ", " + c6 + ")";
                refusedOn(MIXED, name, x -> x.send(c4, c5, c6));
                refusedOn(ALL_MISSING, name, x -> x.send(c4, c5, c6));
            }
        }
    }

    // Promise 3: "(it is missing as before, or not)"

    private static void changeOfAMissingPlace() {
        SymbolMender x = MIXED.make();
        due("change(1, 4), missing", x.change(1, 4), 6);
        due("change(6, 5), missing", x.change(6, 5), 0);
        due("change(4, 3), not missing", x.change(4, 3), 7);
        new Line("changed", row(0, 4, 0, 1, 3, 2, 5), row(0, 1, 0, 0, 0, 0, 1), WHOLE, 1).expectOn(x, "change");
    }

    // Promise 3: "Answers the symbol before": also if it is the same.

    private static void changeToTheSameSymbol() {
        for (int place = 0; place < 7; place++) {
            int symbol = MIXED.word()[place];
            int at = place;
            SymbolMender x = MIXED.make();
            due("change(" + at + ", " + symbol + ")", x.change(at, symbol), symbol);
            MIXED.expectOn(x, "change(" + at + ", " + symbol + ")");
        }
    }

    // Promise 3: "or -1": the place, the symbol, or both; the edges of the other one do not help.

    private static void changeRefused() {
        for (int bad : allOutOfRange(PLACES_TOO_LARGE)) {
            refusedOn(MIXED, "change(" + bad + ", 0)", x -> x.change(bad, 0));
            refusedOn(MIXED, "change(" + bad + ", 7)", x -> x.change(bad, 7));
        }
        for (int bad : allOutOfRange(SYMBOLS_TOO_LARGE)) {
            refusedOn(MIXED, "change(0, " + bad + ")", x -> x.change(0, bad));
            refusedOn(MIXED, "change(1, " + bad + "), missing", x -> x.change(1, bad));
            refusedOn(MIXED, "change(6, " + bad + "), missing", x -> x.change(6, bad));
            refusedOn(MIXED, "change(7, " + bad + ")", x -> x.change(7, bad));
            refusedOn(MIXED, "change(-1, " + bad + ")", x -> x.change(-1, bad));
            refusedOn(MIXED, "change(" + bad + ", " + bad + ")", x -> x.change(bad, bad));
        }
    }

    // Promise 4: "Answers 1 if it was missing before, 0 if not": from none missing to all seven,
    // each twice, and back.

    private static void loseWhatIsLost() {
        SymbolMender x = SENT.make();
        int[] missing = new int[7];
        for (int place = 0; place < 7; place++) {
            due("lose(" + place + ", true)", x.lose(place, true), 0);
            due("lose(" + place + ", true) again", x.lose(place, true), 1);
            missing[place] = 1;
            boolean fits = place < 4;
            new Line("lost to " + place, WHOLE, missing, fits ? WHOLE : null, fits ? 0 : -1).expectOn(x, "lose");
        }
        for (int place = 0; place < 7; place++) {
            due("lose(" + place + ", false)", x.lose(place, false), 1);
            due("lose(" + place + ", false) again", x.lose(place, false), 0);
        }
        SENT.expectOn(x, "all lost and found");
    }

    // Promise 4: "or -1": on and off.

    private static void loseRefused() {
        for (int bad : allOutOfRange(PLACES_TOO_LARGE)) {
            refusedOn(ALL_MISSING, "lose(" + bad + ", false)", x -> x.lose(bad, false));
            refusedOn(ALL_MISSING, "lose(" + bad + ", true)", x -> x.lose(bad, true));
            refusedOn(SENT, "lose(" + bad + ", false)", x -> x.lose(bad, false));
            refusedOn(SENT, "lose(" + bad + ", true)", x -> x.lose(bad, true));
        }
    }

    // Promise 5: "whether it is missing or not"

    private static void atAMissingPlace() {
        SymbolMender x = ALL_MISSING.make();
        for (int place = 0; place < 7; place++) {
            due("at(" + place + "), missing", x.at(place), place + 1);
            x.lose(place, false);
            due("at(" + place + "), not missing", x.at(place), place + 1);
        }
    }

    // Promise 5: "-1."

    private static void atRefused() {
        for (int bad : allOutOfRange(PLACES_TOO_LARGE)) {
            refusedOn(START, "at(" + bad + ")", x -> x.at(bad));
            refusedOn(ALL_MISSING, "at(" + bad + ")", x -> x.at(bad));
        }
    }

    // Promise 6: "1 if some code word fits the line, else 0.": and nothing is changed.

    private static void fitsOrNot() {
        for (Line line : FITTING) {
            asked(line, "fits()", x -> x.fits(), 1);
        }
        for (Line line : NOT_FITTING) {
            asked(line, "fits()", x -> x.fits(), 0);
        }
    }

    private static void asked(Line line, String name, Call call, int want) {
        SymbolMender x = line.make();
        due(line.name() + ": " + name, call.on(x), want);
        line.expectOn(x, name);
    }

    // Promise 7: "The symbol at the place of the code word that fits the line": not the line's own.

    private static void mendedAtAMissingPlace() {
        for (Line line : FITTING) {
            for (int place = 0; place < 7; place++) {
                int at = place;
                asked(line, "mended(" + at + ")", x -> x.mended(at), line.whole()[at]);
            }
        }
    }

    // Promise 7: "-1 also if none does."

    private static void mendedIfNoneFits() {
        for (Line line : NOT_FITTING) {
            for (int place = 0; place < 7; place++) {
                int at = place;
                asked(line, "mended(" + at + ")", x -> x.mended(at), -1);
            }
        }
    }

    // Promise 7: "-1 also": for a place out of range, whether a code word fits or not.

    private static void mendedRefused() {
        for (int bad : allOutOfRange(PLACES_TOO_LARGE)) {
            refusedOn(START, "mended(" + bad + ")", x -> x.mended(bad));
            refusedOn(FOUR_MISSING, "mended(" + bad + ")", x -> x.mended(bad));
            refusedOn(ALL_MISSING, "mended(" + bad + ")", x -> x.mended(bad));
        }
    }

    // Promise 8: "in how many places that are not missing it differs": from none to two, and the
    // missing ones are left out, right or wrong.

    private static void wrongLeavesOutMissingPlaces() {
        asked(START, "wrong()", x -> x.wrong(), 0);
        asked(TWO_WRONG, "wrong()", x -> x.wrong(), 2);
        asked(MIXED, "wrong()", x -> x.wrong(), 1);
        asked(FOUR_MISSING, "wrong()", x -> x.wrong(), 0);
        asked(FOUR_MISSING_BUT_RIGHT, "wrong()", x -> x.wrong(), 0);
    }

    // Promise 8: "-1 if none does."

    private static void wrongIfNoneFits() {
        for (Line line : NOT_FITTING) {
            asked(line, "wrong()", x -> x.wrong(), -1);
        }
    }

    // Promise 9: "the line holds it, with no place missing: answers 1": also if nothing is wrong.

    private static void mendLeavesNoPlaceMissing() {
        for (Line line : FITTING) {
            SymbolMender x = line.make();
            due(line.name() + ": mend()", x.mend(), 1);
            new Line("mended", line.whole(), ZEROS, line.whole(), 0).expectOn(x, "mend() of " + line.name());
        }
    }

    // Promise 9: "Else 0, and nothing is changed."

    private static void mendIfNoneFits() {
        for (Line line : NOT_FITTING) {
            asked(line, "mend()", x -> x.mend(), 0);
        }
    }

    // Promise 10: "The product of the symbols, or -1.": also beside 0, whose products are all 0.

    private static void productRefused() {
        for (int bad : allOutOfRange(SYMBOLS_TOO_LARGE)) {
            for (int good = 0; good < 8; good++) {
                int other = good;
                refusedOn(START, "product(" + bad + ", " + other + ")", x -> x.product(bad, other));
                refusedOn(START, "product(" + other + ", " + bad + ")", x -> x.product(other, bad));
            }
            refusedOn(START, "product(" + bad + ", " + bad + ")", x -> x.product(bad, bad));
        }
    }

    // Promise 11: "The value of the line's word at the symbol, whatever is missing"

    private static void valueWhateverIsMissing() {
        int[] values = {7, 7, 0, 0, 0, 3, 0, 3};
        for (int lost = 0; lost <= ALL_PLACES; lost++) {
            SymbolMender x = new SymbolMender();
            x.send(0, 0, 1);
            for (int place = 0; place < 7; place++) {
                x.lose(place, (lost >> place & 1) == 1);
            }
            for (int s = 0; s < 8; s++) {
                due("missing set " + lost + ": value(" + s + ")", x.value(s), values[s]);
            }
        }
    }

    // Promise 11: "or -1.": also of the word of zeros, whose values are all 0.

    private static void valueRefused() {
        for (int bad : allOutOfRange(SYMBOLS_TOO_LARGE)) {
            refusedOn(START, "value(" + bad + ")", x -> x.value(bad));
            refusedOn(ALL_MISSING, "value(" + bad + ")", x -> x.value(bad));
        }
    }
}
