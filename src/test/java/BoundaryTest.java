import java.util.Arrays;
import java.util.function.Supplier;

// Each sentence of the document that names a boundary case, with a test of its own. The sentence
// stands beside its test in main. The answers due were worked out by hand from the words.
public final class BoundaryTest {
    private static final int BAD_ARG = -1;
    private static final int NONE = -4;

    // Just outside, far outside, and numbers that a narrower type, a sign that is dropped or a
    // shift by 32 would bring back into the range.
    private static final int[] NO_PLACES = {-1, 5, 6, 7, 31, 32, 36, -4, -5, 256, 65536, -256,
            Integer.MIN_VALUE, Integer.MIN_VALUE + 4, Integer.MAX_VALUE};
    private static final int[] NO_VALUES = {-1, 7, 8, 31, 32, 38, -6, -7, 256, 65536, -256,
            Integer.MIN_VALUE, Integer.MIN_VALUE + 6, Integer.MAX_VALUE};
    private static final int[] NO_CAPACITIES = {-1, 4, 5, 7, 32, -2, -3, 256, 65536, -256,
            Integer.MIN_VALUE, Integer.MIN_VALUE + 3, Integer.MAX_VALUE};
    private static final int[] NO_SETS = {-1, 128, 129, 255, 256, 383, -127, -128, 65536, -256,
            Integer.MIN_VALUE, Integer.MIN_VALUE + 127, Integer.MAX_VALUE};

    private static int wrong = 0;
    private static String sentence = "";

    private interface Call {
        int on(TightDomains x);
    }

    private static void sentence(String words, Runnable test) {
        sentence = words;
        try {
            test.run();
        } catch (Throwable thrown) {
            wrong++;
            System.out.println(sentence + " - threw " + thrown);
        }
    }

    private static void due(String what, int got, int want) {
        if (got != want) {
            wrong++;
            System.out.println(sentence + " - " + what + " answered " + got + ", due is " + want);
        }
    }

    private static void due(String what, boolean got, boolean want) {
        due(what, got ? 1 : 0, want ? 1 : 0);
    }

    private static void due(String what, int[] got, int... want) {
        if (!Arrays.equals(got, want)) {
            wrong++;
            System.out.println(sentence + " - " + what + " is " + Arrays.toString(got) + ", due is "
                    + Arrays.toString(want));
        }
    }

    private static TightDomains domains(int... sets) {
        TightDomains x = new TightDomains();
        for (int i = 0; i < 5; i++) {
            x.domain(i, sets[i]);
        }
        return x;
    }

    private static TightDomains capacities(TightDomains x, int... units) {
        for (int v = 0; v < 7; v++) {
            x.capacity(v, units[v]);
        }
        return x;
    }

    private static TightDomains capacities(int... units) {
        return capacities(new TightDomains(), units);
    }

    private static TightDomains noDomains() {
        return domains(0, 0, 0, 0, 0);
    }

    private static TightDomains noCapacities() {
        return capacities(0, 0, 0, 0, 0, 0, 0);
    }

    private static TightDomains allCapacities() {
        return capacities(3, 3, 3, 3, 3, 3, 3);
    }

    // A filling, but no two domains and hardly two capacities alike.
    private static TightDomains mixed() {
        return capacities(domains(3, 6, 12, 24, 96), 0, 1, 2, 3, 0, 1, 2);
    }

    // Two places for one unit, and hardly two capacities alike.
    private static TightDomains mixedWithoutFilling() {
        return capacities(domains(2, 2, 12, 24, 96), 0, 1, 2, 3, 0, 1, 2);
    }

    // The face tells a domain or a capacity only while it sets it, so it is put back after.
    private static int domainOf(TightDomains x, int i) {
        int set = x.domain(i, 0);
        x.domain(i, set);
        return set;
    }

    private static int[] domainsOf(TightDomains x) {
        int[] sets = new int[5];
        for (int i = 0; i < 5; i++) {
            sets[i] = domainOf(x, i);
        }
        return sets;
    }

    private static int[] capacitiesOf(TightDomains x) {
        int[] units = new int[7];
        for (int v = 0; v < 7; v++) {
            units[v] = x.capacity(v, 0);
            x.capacity(v, units[v]);
        }
        return units;
    }

    private static int[] supports(TightDomains x) {
        int[] sets = new int[5];
        for (int i = 0; i < 5; i++) {
            sets[i] = x.support(i);
        }
        return sets;
    }

    private static int[] firsts(TightDomains x) {
        int[] values = new int[5];
        for (int i = 0; i < 5; i++) {
            values[i] = x.first(i);
        }
        return values;
    }

    // Everything that the questions tell, before anything is set to look at the state itself.
    private static int[] answersOf(TightDomains x) {
        return new int[] {x.fillable() ? 1 : 0, x.most(), x.support(0), x.support(4), x.first(0), x.first(4),
                x.count(), x.exhausted(), x.unused(), x.lack(), x.tight(), x.spareable(), x.missing()};
    }

    // The call answers the code and changes nothing, on objects that hold all kinds of state.
    private static void refused(String what, int code, Call call) {
        refused(what, code, call, TightDomains::new);
        refused(what, code, call, BoundaryTest::mixed);
        refused(what, code, call, BoundaryTest::mixedWithoutFilling);
        refused(what, code, call, BoundaryTest::noDomains);
        refused(what, code, call, BoundaryTest::noCapacities);
    }

    private static void refused(String what, int code, Call call, Supplier<TightDomains> made) {
        TightDomains x = made.get();
        due(what, call.on(x), code);
        due("the domains after " + what, domainsOf(x), domainsOf(made.get()));
        due("the capacities after " + what, capacitiesOf(x), capacitiesOf(made.get()));
    }

    // ---- What it is, Terms ----

    private static void fiveHundredAndTwelveCalls() {
        TightDomains x = new TightDomains();
        for (int call = 1; call <= 510; call++) {
            due("call " + call, x.allow(call % 5, call % 7, 1), 1);
        }
        due("call 511", x.domain(4, 64), 127);
        due("call 512", x.count(), 360);
    }

    private static void constants() {
        due("BAD_ARG", TightDomains.BAD_ARG, -1);
        due("NONE", TightDomains.NONE, -4);
    }

    private static void placesAre0To4() {
        for (int i = -300; i <= 300; i++) {
            boolean place = i >= 0 && i <= 4;
            TightDomains x = new TightDomains();
            due("support(" + i + ")", x.support(i) != BAD_ARG, place);
            due("first(" + i + ")", x.first(i) != BAD_ARG, place);
            due("allow(" + i + ", 6, 1)", x.allow(i, 6, 1) != BAD_ARG, place);
            due("domain(" + i + ", 1)", x.domain(i, 1) != BAD_ARG, place);
        }
        due("fillable() without place 0", domains(0, 127, 127, 127, 127).fillable(), false);
        due("fillable() without place 4", domains(127, 127, 127, 127, 0).fillable(), false);
    }

    private static void valuesAre0To6() {
        for (int v = -300; v <= 300; v++) {
            boolean value = v >= 0 && v <= 6;
            TightDomains x = new TightDomains();
            due("allow(4, " + v + ", 0)", x.allow(4, v, 0) != BAD_ARG, value);
            due("capacity(" + v + ", 3)", x.capacity(v, 3) != BAD_ARG, value);
        }
        TightDomains ends = domains(65, 65, 2, 4, 8);
        due("support(0) of the first and the last value", ends.support(0), 65);
        due("first(0) of the first and the last value", ends.first(0), 0);
        due("first(1) of the first and the last value", ends.first(1), 6);
        due("exhausted() of the first and the last value", ends.exhausted(), 79);
        due("unused() of the first and the last value", domains(2, 4, 8, 16, 32).unused(), 65);
    }

    private static void capacitiesAre0To3() {
        for (int c = -300; c <= 300; c++) {
            due("capacity(6, " + c + ")", new TightDomains().capacity(6, c) != BAD_ARG, c >= 0 && c <= 3);
        }
        due("most() with capacity 0", capacities(domains(1, 1, 1, 1, 1), 0, 3, 3, 3, 3, 3, 3).most(), 0);
        due("most() with capacity 3", capacities(domains(1, 1, 1, 1, 1), 3, 3, 3, 3, 3, 3, 3).most(), 3);
    }

    private static void setsOfValuesAre0To127() {
        for (int set = -300; set <= 300; set++) {
            due("domain(2, " + set + ")", new TightDomains().domain(2, set) != BAD_ARG, set >= 0 && set <= 127);
        }
        for (int v = 0; v < 7; v++) {
            TightDomains x = allCapacities();
            x.domain(3, 1 << v);
            due("support(3) with 2 to the power " + v, x.support(3), 1 << v);
            due("first(3) with 2 to the power " + v, x.first(3), v);
        }
        due("support(0) with all values", allCapacities().support(0), 127);
        due("support(0) with no values", noDomains().support(0), 0);
    }

    private static void setsOfPlacesAre0To31() {
        for (int i = 0; i < 5; i++) {
            TightDomains x = new TightDomains();
            x.domain(i, 0);
            due("lack() with place " + i + " empty", x.lack(), 1 << i);
        }
        due("lack() with all places", domains(15, 15, 15, 15, 15).lack(), 31);
    }

    private static void atMostAsManyPlacesAsCapacity() {
        for (int c = 0; c <= 3; c++) {
            TightDomains x = new TightDomains();
            x.capacity(6, c);
            for (int i = 0; i < c; i++) {
                x.domain(i, 64);
            }
            due(c + " places with capacity " + c, x.fillable(), true);
            x.domain(c, 64);
            due(c + 1 + " places with capacity " + c, x.fillable(), false);
        }
    }

    private static void partFillingOfNone() {
        due("most() with no capacity", noCapacities().most(), 0);
        due("most() with no domains", noDomains().most(), 0);
        due("spareable() with no capacity", noCapacities().spareable(), 5);
    }

    private static void partFillingOfAll() {
        due("most()", domains(1, 2, 4, 8, 16).most(), 5);
        due("spareable()", domains(1, 2, 4, 8, 16).spareable(), 0);
    }

    private static void orderOfFillings() {
        due("place 0 goes before all", firsts(domains(3, 65, 4, 8, 48)), 0, 6, 2, 3, 4);
        due("place 1 goes before 2", firsts(domains(1, 6, 66, 8, 16)), 0, 1, 6, 3, 4);
        due("place 2 goes before 3", firsts(domains(1, 2, 12, 68, 16)), 0, 1, 2, 6, 4);
        due("place 3 goes before 4", firsts(domains(1, 2, 4, 24, 72)), 0, 1, 2, 3, 6);
        due("place 4 goes last", firsts(domains(1, 2, 4, 8, 96)), 0, 1, 2, 3, 5);
    }

    private static void noCallThrows() {
        int[] arguments = {Integer.MIN_VALUE, -129, -33, -8, -1, 0, 4, 5, 6, 7, 31, 32, 127, 128, Integer.MAX_VALUE};
        for (int a : arguments) {
            TightDomains x = mixed();
            TightDomains y = mixedWithoutFilling();
            x.support(a);
            y.support(a);
            x.first(a);
            y.first(a);
            for (int b : arguments) {
                x.domain(a, b);
                x.capacity(a, b);
                x.allow(a, b, a);
                x.allow(a, b, 0);
            }
            answersOf(x);
            x.prune();
            answersOf(x);
        }
    }

    private static void noQuestionThrowsInAnEmptyOrFullState() {
        TightDomains nothing = capacities(noDomains(), 0, 0, 0, 0, 0, 0, 0);
        due("prune() of nothing", nothing.prune(), NONE);
        due("the answers of nothing", answersOf(nothing), 0, 0, 0, 0, NONE, NONE, 0, NONE, NONE, 1, 0, 5, NONE);
        TightDomains everything = allCapacities();
        due("prune() of everything", everything.prune(), 0);
        due("the answers of everything", answersOf(everything), 1, 5, 127, 127, 0, 1, 16590, 0, 0, NONE, 0, 0, 0);
    }

    private static void refusedCallsChangeNoAnswer() {
        TightDomains x = mixed();
        TightDomains y = mixedWithoutFilling();
        for (TightDomains z : new TightDomains[] {x, y}) {
            z.domain(5, 0);
            z.domain(0, 128);
            z.allow(-1, 0, 0);
            z.allow(0, 7, 1);
            z.capacity(7, 0);
            z.capacity(1, 4);
            z.support(5);
            z.first(-1);
        }
        due("prune()", y.prune(), NONE);
        due("the answers with a filling", answersOf(x), answersOf(mixed()));
        due("the answers without a filling", answersOf(y), answersOf(mixedWithoutFilling()));
    }

    private static void questionsChangeNothing() {
        for (Supplier<TightDomains> made : Arrays.<Supplier<TightDomains>>asList(TightDomains::new,
                BoundaryTest::mixed, BoundaryTest::mixedWithoutFilling, BoundaryTest::noDomains,
                BoundaryTest::noCapacities)) {
            TightDomains x = made.get();
            due("the answers again", answersOf(x), answersOf(x));
            due("the domains after the questions", domainsOf(x), domainsOf(made.get()));
            due("the capacities after the questions", capacitiesOf(x), capacitiesOf(made.get()));
        }
    }

    // ---- Promise 1 ----

    private static void newDomains() {
        due("the domains", domainsOf(new TightDomains()), 127, 127, 127, 127, 127);
    }

    private static void newCapacities() {
        due("the capacities", capacitiesOf(new TightDomains()), 1, 1, 1, 1, 1, 1, 1);
    }

    private static void newBesideAnother() {
        TightDomains other = new TightDomains();
        other.domain(0, 0);
        other.capacity(0, 3);
        TightDomains x = new TightDomains();
        other.domain(4, 0);
        other.capacity(6, 0);
        due("the domains", domainsOf(x), 127, 127, 127, 127, 127);
        due("the capacities", capacitiesOf(x), 1, 1, 1, 1, 1, 1, 1);
    }

    // ---- Promise 2 ----

    private static void domainBecomesTheSet() {
        for (int set = 0; set <= 127; set++) {
            TightDomains x = new TightDomains();
            x.domain(set % 5, 127 - set);
            x.domain(set % 5, set);
            int[] want = {127, 127, 127, 127, 127};
            want[set % 5] = set;
            due("the domains", domainsOf(x), want);
        }
    }

    private static void domainRefusesPlaces() {
        for (int i : NO_PLACES) {
            refused("domain(" + i + ", 0)", BAD_ARG, x -> x.domain(i, 0));
            refused("domain(" + i + ", 127)", BAD_ARG, x -> x.domain(i, 127));
        }
    }

    private static void domainRefusesSets() {
        for (int set : NO_SETS) {
            refused("domain(0, " + set + ")", BAD_ARG, x -> x.domain(0, set));
            refused("domain(4, " + set + ")", BAD_ARG, x -> x.domain(4, set));
            refused("domain(5, " + set + ")", BAD_ARG, x -> x.domain(5, set));
        }
    }

    private static void domainAnswersTheOneBefore() {
        TightDomains x = new TightDomains();
        due("from full to empty", x.domain(4, 0), 127);
        due("from empty to empty", x.domain(4, 0), 0);
        due("from empty to full", x.domain(4, 127), 0);
        due("from full to full", x.domain(4, 127), 127);
        x.domain(4, 128);
        due("after a refusal", x.domain(4, 8), 127);
        x.allow(4, 0, 1);
        due("after allow", x.domain(4, 1), 9);
        x.prune();
        due("after prune", x.domain(0, 1), 126);
    }

    // ---- Promise 3 ----

    private static void allowPutsInForAnythingButZero() {
        int[] notZero = {1, -1, 2, 7, 32, 128, 256, 65536, 1 << 30, Integer.MIN_VALUE, Integer.MAX_VALUE};
        for (int in : notZero) {
            TightDomains x = domains(0, 63, 64, 0, 0);
            x.allow(0, 0, in);
            x.allow(1, 6, in);
            x.allow(2, 6, in);
            due("the domains after in = " + in, domainsOf(x), 1, 127, 64, 0, 0);
        }
    }

    private static void allowTakesOutForZero() {
        TightDomains x = domains(127, 64, 63, 0, 1);
        x.allow(0, 0, 0);
        x.allow(1, 6, 0);
        x.allow(2, 6, 0);
        x.allow(3, 3, 0);
        x.allow(4, 0, 0);
        due("the domains", domainsOf(x), 126, 0, 63, 0, 0);
    }

    private static void allowRefusesPlaces() {
        for (int i : NO_PLACES) {
            refused("allow(" + i + ", 0, 1)", BAD_ARG, x -> x.allow(i, 0, 1));
            refused("allow(" + i + ", 6, 0)", BAD_ARG, x -> x.allow(i, 6, 0));
        }
    }

    private static void allowRefusesValues() {
        for (int v : NO_VALUES) {
            refused("allow(0, " + v + ", 0)", BAD_ARG, x -> x.allow(0, v, 0));
            refused("allow(0, " + v + ", 1)", BAD_ARG, x -> x.allow(0, v, 1));
            refused("allow(4, " + v + ", 0)", BAD_ARG, x -> x.allow(4, v, 0));
            refused("allow(4, " + v + ", 1)", BAD_ARG, x -> x.allow(4, v, 1));
            refused("allow(5, " + v + ", 1)", BAD_ARG, x -> x.allow(5, v, 1));
        }
    }

    private static void allowAnswersWhetherItWasIn() {
        for (int v = 0; v < 7; v++) {
            TightDomains x = domains(127, 0, 127, 0, 127);
            due("put in what is in: " + v, x.allow(4, v, 1), 1);
            due("take out what is in: " + v, x.allow(4, v, 0), 1);
            due("take out what is not in: " + v, x.allow(4, v, 0), 0);
            due("put in what is not in: " + v, x.allow(4, v, 1), 0);
            due("put into an empty domain: " + v, x.allow(1, v, -1), 0);
            due("take the only one out: " + v, x.allow(1, v, 0), 1);
        }
    }

    // ---- Promise 4 ----

    private static void capacityBecomesC() {
        for (int c = 0; c <= 3; c++) {
            TightDomains x = new TightDomains();
            x.capacity(0, c);
            x.capacity(6, 3 - c);
            due("the capacities", capacitiesOf(x), c, 1, 1, 1, 1, 1, 3 - c);
        }
    }

    private static void capacityRefusesValues() {
        for (int v : NO_VALUES) {
            refused("capacity(" + v + ", 0)", BAD_ARG, x -> x.capacity(v, 0));
            refused("capacity(" + v + ", 3)", BAD_ARG, x -> x.capacity(v, 3));
        }
    }

    private static void capacityRefusesCapacities() {
        for (int c : NO_CAPACITIES) {
            refused("capacity(0, " + c + ")", BAD_ARG, x -> x.capacity(0, c));
            refused("capacity(6, " + c + ")", BAD_ARG, x -> x.capacity(6, c));
            refused("capacity(7, " + c + ")", BAD_ARG, x -> x.capacity(7, c));
        }
    }

    private static void capacityAnswersTheOneBefore() {
        TightDomains x = new TightDomains();
        due("from 1 to 3", x.capacity(6, 3), 1);
        due("from 3 to 3", x.capacity(6, 3), 3);
        due("from 3 to 0", x.capacity(6, 0), 3);
        due("from 0 to 0", x.capacity(6, 0), 0);
        x.capacity(6, 4);
        due("after a refusal", x.capacity(6, 2), 0);
        x.missing();
        x.prune();
        due("after prune", x.capacity(6, 1), 2);
    }

    // ---- Promises 5 and 6 ----

    private static void fillableAtTheEdge() {
        due("five units", capacities(0, 0, 2, 0, 0, 0, 3).fillable(), true);
        due("four units", capacities(0, 0, 1, 0, 0, 0, 3).fillable(), false);
        due("many units, one place without", domains(127, 127, 0, 127, 127).fillable(), false);
        due("many units, one place with values of capacity 0",
                capacities(domains(127, 127, 6, 127, 127), 3, 0, 0, 3, 3, 3, 3).fillable(), false);
        due("one filling", domains(1, 3, 7, 15, 31).fillable(), true);
        due("one filling, less one value", domains(1, 3, 7, 15, 15).fillable(), false);
    }

    private static void mostFrom0To5() {
        int[] sets = {0, 0, 0, 0, 0};
        for (int filled = 0; filled <= 5; filled++) {
            due("with " + filled + " domains", domains(sets).most(), filled);
            if (filled < 5) {
                sets[4 - filled] = 4 << filled;
            }
        }
        for (int c = 0; c <= 3; c++) {
            due("with " + c + " units", capacities(c, 0, 0, 0, 0, 0, 0).most(), c);
            due("with " + 2 * c + " units", capacities(0, 0, c, 0, 0, 0, c).most(), c == 3 ? 5 : 2 * c);
        }
        due("with more units than places", allCapacities().most(), 5);
    }

    // ---- Promise 7 ----

    private static void supportOfSomeFilling() {
        due("all are free", supports(new TightDomains()), 127, 127, 127, 127, 127);
        due("one filling", supports(domains(1, 3, 7, 15, 31)), 1, 2, 4, 8, 16);
        due("one unit keeps the others out", supports(domains(64, 127, 127, 127, 127)), 64, 63, 63, 63, 63);
        due("two units let one more in", supports(capacities(domains(64, 127, 127, 127, 127), 1, 1, 1, 1, 1, 1, 2)),
                64, 127, 127, 127, 127);
        due("capacity 0", supports(capacities(0, 1, 1, 1, 1, 1, 0)), 62, 62, 62, 62, 62);
    }

    private static void supportIs0WithoutFilling() {
        due("an empty domain", supports(domains(127, 127, 127, 127, 0)), 0, 0, 0, 0, 0);
        due("two for one", supports(domains(127, 127, 127, 64, 64)), 0, 0, 0, 0, 0);
        due("no capacity", supports(noCapacities()), 0, 0, 0, 0, 0);
    }

    private static void supportRefusesPlaces() {
        for (int i : NO_PLACES) {
            refused("support(" + i + ")", BAD_ARG, x -> x.support(i));
        }
    }

    // ---- Promise 8 ----

    private static void pruneToSupport() {
        TightDomains chain = domains(31, 15, 7, 3, 1);
        due("prune() of a chain", chain.prune(), 10);
        due("the domains of a chain", domainsOf(chain), 16, 8, 4, 2, 1);
        TightDomains narrow = capacities(3, 0, 0, 0, 0, 0, 2);
        due("prune() of values without capacity", narrow.prune(), 25);
        due("the domains of values without capacity", domainsOf(narrow), 65, 65, 65, 65, 65);
        due("the capacities stay", capacitiesOf(narrow), 3, 0, 0, 0, 0, 0, 2);
    }

    private static void pruneWithoutFilling() {
        refused("prune() with an empty domain", NONE, x -> x.prune(), () -> domains(127, 63, 31, 15, 0));
        refused("prune() with two for one", NONE, x -> x.prune(), () -> domains(127, 127, 127, 1, 1));
        refused("prune() with no capacity", NONE, x -> x.prune(), BoundaryTest::noCapacities);
        refused("prune() with no domains", NONE, x -> x.prune(), BoundaryTest::noDomains);
        refused("prune() with mixed capacities", NONE, x -> x.prune(), BoundaryTest::mixedWithoutFilling);
    }

    private static void pruneAnswersHowManyWentOut() {
        due("none in a new object", new TightDomains().prune(), 0);
        due("none with one filling", domains(64, 32, 16, 8, 4).prune(), 0);
        due("one", domains(65, 1, 62, 62, 62).prune(), 1);
        TightDomains x = domains(127, 64, 32, 16, 8);
        due("four of one domain", x.prune(), 4);
        due("none the second time", x.prune(), 0);
    }

    // ---- Promise 9 ----

    private static void firstOfTheFirstFilling() {
        due("the least values", firsts(new TightDomains()), 0, 1, 2, 3, 4);
        due("the greatest values", firsts(domains(64, 96, 112, 120, 124)), 6, 5, 4, 3, 2);
        due("capacity 3", firsts(capacities(3, 3, 3, 3, 3, 3, 3)), 0, 0, 0, 1, 1);
        due("capacity 0", firsts(capacities(0, 0, 3, 0, 0, 0, 2)), 2, 2, 2, 6, 6);
    }

    private static void firstWithoutFilling() {
        due("an empty domain", firsts(domains(0, 127, 127, 127, 127)), NONE, NONE, NONE, NONE, NONE);
        due("two for one", firsts(domains(1, 2, 4, 64, 64)), NONE, NONE, NONE, NONE, NONE);
        due("no capacity", firsts(noCapacities()), NONE, NONE, NONE, NONE, NONE);
    }

    private static void firstRefusesPlaces() {
        for (int i : NO_PLACES) {
            refused("first(" + i + ")", BAD_ARG, x -> x.first(i), TightDomains::new);
            refused("first(" + i + ")", BAD_ARG, x -> x.first(i), BoundaryTest::mixed);
        }
    }

    private static void firstTestsThePlaceFirst() {
        for (int i : NO_PLACES) {
            refused("first(" + i + ")", BAD_ARG, x -> x.first(i), BoundaryTest::noDomains);
            refused("first(" + i + ")", BAD_ARG, x -> x.first(i), BoundaryTest::noCapacities);
            refused("first(" + i + ")", BAD_ARG, x -> x.first(i), BoundaryTest::mixedWithoutFilling);
        }
    }

    // ---- Promise 10 ----

    private static void countFromNoneToAll() {
        due("an empty domain", domains(127, 127, 0, 127, 127).count(), 0);
        due("no capacity", noCapacities().count(), 0);
        due("one unit too few", domains(15, 15, 15, 15, 15).count(), 0);
        due("one", domains(1, 3, 7, 15, 31).count(), 1);
        due("two in the last place", domains(1, 2, 4, 8, 96).count(), 2);
        due("a new object", new TightDomains().count(), 2520);
        due("as many as there can be", allCapacities().count(), 16590);
    }

    // ---- Promise 11 ----

    private static void exhaustedAsOftenAsCapacity() {
        due("3 of 3 and 2 of 2", capacities(domains(64, 64, 64, 1, 1), 2, 1, 1, 1, 1, 1, 3).exhausted(), 65);
        due("2 of 3 and 3 of 3", capacities(domains(64, 64, 1, 1, 1), 3, 1, 1, 1, 1, 1, 3).exhausted(), 1);
        due("1 of 2 each", capacities(domains(1, 2, 4, 8, 16), 2, 2, 2, 2, 2, 2, 2).exhausted(), 0);
        due("all values that have capacity", capacities(1, 1, 1, 1, 1, 0, 0).exhausted(), 31);
    }

    private static void exhaustedHasCapacityAbove0() {
        due("the others have capacity 0", capacities(domains(1, 2, 4, 8, 48), 1, 1, 1, 1, 1, 0, 0).exhausted(), 31);
        due("the used have more", capacities(domains(1, 2, 4, 8, 48), 2, 2, 2, 2, 2, 0, 0).exhausted(), 0);
    }

    private static void exhaustedInEveryFilling() {
        due("in all fillings but one", domains(1, 2, 4, 24, 56).exhausted(), 7);
        due("by either of two places", domains(1, 2, 4, 24, 24).exhausted(), 31);
        due("in the first filling alone", capacities(domains(1, 1, 1, 3, 4), 3, 2, 2, 0, 0, 0, 0).exhausted(), 1);
    }

    private static void exhaustedWithoutFilling() {
        due("an empty domain", domains(1, 2, 4, 8, 0).exhausted(), NONE);
        due("two for one", domains(1, 1, 4, 8, 16).exhausted(), NONE);
        due("no capacity", noCapacities().exhausted(), NONE);
    }

    // ---- Promise 12 ----

    private static void unusedByNoFilling() {
        due("none", new TightDomains().unused(), 0);
        due("all but two", capacities(3, 2, 0, 0, 0, 0, 0).unused(), 124);
        due("in no domain", domains(2, 4, 8, 16, 32).unused(), 65);
        due("in a domain, without capacity", capacities(0, 1, 1, 1, 1, 1, 0).unused(), 65);
        due("used, but not up", capacities(domains(1, 1, 2, 2, 64), 3, 3, 1, 1, 1, 1, 3).unused(), 60);
        due("in the last place alone", domains(1, 3, 7, 15, 79).unused(), 48);
        due("by one filling alone", domains(1, 2, 4, 8, 80).unused(), 32);
    }

    private static void unusedWithoutFilling() {
        due("an empty domain", domains(0, 2, 4, 8, 16).unused(), NONE);
        due("two for one", domains(1, 2, 4, 8, 8).unused(), NONE);
        due("no capacity", noCapacities().unused(), NONE);
        due("no domains", noDomains().unused(), NONE);
    }

    // ---- Promise 13 ----

    private static void lackIsTheLeastNumber() {
        due("one place of five", domains(127, 127, 127, 127, 0).lack(), 16);
        due("two places before a single one", domains(1, 1, 0, 0, 0).lack(), 3);
        due("a single one before two places", domains(1, 0, 1, 127, 127).lack(), 2);
        due("four places before the last", domains(7, 7, 7, 7, 0).lack(), 15);
        due("the last pair", domains(1, 2, 4, 64, 64).lack(), 24);
        due("all five", domains(15, 15, 15, 15, 15).lack(), 31);
    }

    private static void lackIsNotEmpty() {
        due("no capacity", noCapacities().lack(), 1);
        due("no domains", noDomains().lack(), 1);
        due("no capacity but one", capacities(domains(1, 2, 4, 8, 16), 1, 0, 0, 0, 0, 0, 0).lack(), 2);
    }

    private static void lackIsLess() {
        due("as many as places", domains(1, 2, 4, 8, 16).lack(), NONE);
        due("3 for three", capacities(domains(64, 64, 64, 1, 2), 1, 1, 1, 1, 1, 1, 3).lack(), NONE);
        due("2 for three", capacities(domains(64, 64, 64, 1, 2), 1, 1, 1, 1, 1, 1, 2).lack(), 7);
        due("5 for five", capacities(3, 0, 0, 0, 0, 0, 2).lack(), NONE);
        due("4 for five", capacities(3, 0, 0, 0, 0, 0, 1).lack(), 31);
    }

    private static void lackCountsTogether() {
        due("a value of all three domains is there once", domains(3, 3, 3, 64, 32).lack(), 7);
        due("values of one domain each", domains(1, 2, 3, 64, 32).lack(), 7);
        due("with capacity 2 it is enough", capacities(domains(1, 2, 3, 64, 32), 2, 1, 1, 1, 1, 1, 1).lack(), NONE);
    }

    private static void lackIsNone() {
        due("a new object", new TightDomains().lack(), NONE);
        due("all capacities 3", allCapacities().lack(), NONE);
        due("just enough", domains(1, 3, 7, 15, 31).lack(), NONE);
    }

    // ---- Promise 14 ----

    private static void tightIsExact() {
        due("one more than places", domains(3, 12, 112, 127, 127).tight(), 0);
        due("one less than places", capacities(domains(3, 3, 3, 3, 3), 0, 1, 1, 1, 1, 1, 1).tight(), 5);
        due("every set", domains(1, 2, 4, 8, 16).tight(), 31);
        due("all five alone", capacities(3, 0, 0, 0, 0, 0, 2).tight(), 1);
        due("every three of five", capacities(domains(64, 64, 64, 64, 64), 0, 0, 0, 0, 0, 0, 3).tight(), 10);
        due("a value of two domains is there once", domains(3, 3, 127, 127, 127).tight(), 1);
    }

    private static void tightIsNotEmpty() {
        due("a new object", new TightDomains().tight(), 0);
        due("no capacity", noCapacities().tight(), 0);
        due("no domains", noDomains().tight(), 0);
        due("all capacities 3", allCapacities().tight(), 0);
    }

    // ---- Promise 15 ----

    private static void spareableFrom0To5() {
        due("nothing to leave out", new TightDomains().spareable(), 0);
        due("just enough", domains(1, 3, 7, 15, 31).spareable(), 0);
        due("a place without values", domains(127, 127, 0, 127, 127).spareable(), 1);
        due("either of two", domains(1, 2, 4, 64, 64).spareable(), 2);
        due("each of three", domains(3, 3, 3, 64, 32).spareable(), 3);
        due("either of two, twice", domains(1, 1, 4, 64, 64).spareable(), 4);
        due("each of five", domains(15, 15, 15, 15, 15).spareable(), 5);
        due("all of them", noDomains().spareable(), 5);
    }

    private static void spareableKeepsMost() {
        due("a place that others can't stand in for", domains(0, 2, 4, 8, 16).spareable(), 1);
        due("one that can be left out only with another", domains(1, 1, 6, 8, 16).spareable(), 2);
        due("one whose value another could have", domains(1, 1, 3, 8, 16).spareable(), 2);
        due("one at the end of a chain", domains(1, 1, 3, 2, 16).spareable(), 4);
    }

    // ---- Promise 16 ----

    private static void missingFrom0To5() {
        due("there is a filling", new TightDomains().missing(), 0);
        due("there is just one", domains(1, 3, 7, 15, 31).missing(), 0);
        due("one", domains(15, 15, 15, 15, 15).missing(), 1);
        due("five", noCapacities().missing(), 5);
        due("five of one value", capacities(domains(64, 64, 64, 64, 64), 3, 3, 3, 3, 3, 3, 0).missing(), 5);
    }

    private static void missingOfOneOrSeveralValues() {
        due("three of one value", domains(1, 2, 2, 2, 2).missing(), 3);
        due("two values", domains(1, 1, 64, 64, 4).missing(), 2);
        due("two values, one of them twice", domains(1, 1, 64, 64, 64).missing(), 3);
        due("a unit for each of five values", capacities(domains(1, 2, 4, 8, 64), 0, 0, 0, 0, 0, 0, 0).missing(), 5);
        due("the value that helps two sets", domains(3, 3, 6, 6, 64).missing(), 1);
    }

    private static void missingGrowsAbove3() {
        due("from 3 to 4", capacities(domains(1, 1, 1, 1, 2), 3, 1, 0, 0, 0, 0, 0).missing(), 1);
        due("from 3 to 5", capacities(domains(1, 1, 1, 1, 1), 3, 3, 3, 3, 3, 3, 3).missing(), 2);
        due("from 2 to 5", capacities(domains(1, 1, 1, 1, 1), 2, 3, 3, 3, 3, 3, 3).missing(), 3);
    }

    private static void missingCanNotBe() {
        for (int i = 0; i < 5; i++) {
            TightDomains x = allCapacities();
            x.domain(i, 0);
            due("place " + i + " without values", x.missing(), NONE);
        }
        due("no domains", noDomains().missing(), NONE);
        due("a place without values, and two for one", domains(1, 1, 4, 8, 0).missing(), NONE);
        due("no capacity can still grow", capacities(domains(64, 64, 64, 64, 1), 0, 0, 0, 0, 0, 0, 0).missing(), 5);
    }

    private static void missingGrowsNothing() {
        TightDomains x = capacities(domains(1, 1, 1, 1, 1), 3, 0, 0, 0, 0, 0, 0);
        x.missing();
        due("the capacities", capacitiesOf(x), 3, 0, 0, 0, 0, 0, 0);
        due("missing() again", x.missing(), 2);
        due("fillable() after it", x.fillable(), false);
    }

    private static void terms() {
        sentence("An object is used for at most 512 calls", BoundaryTest::fiveHundredAndTwelveCalls);
        sentence("The constants: BAD_ARG = -1, NONE = -4", BoundaryTest::constants);
        sentence("PLACES are 0 to 4", BoundaryTest::placesAre0To4);
        sentence("VALUES 0 to 6", BoundaryTest::valuesAre0To6);
        sentence("value v has a CAPACITY, 0 to 3", BoundaryTest::capacitiesAre0To3);
        sentence("A set of values (0 to 127)", BoundaryTest::setsOfValuesAre0To127);
        sentence("a set of places (0 to 31)", BoundaryTest::setsOfPlacesAre0To31);
        sentence("given to at most as many places as its capacity", BoundaryTest::atMostAsManyPlacesAsCapacity);
        sentence("A PART FILLING gives none of the places, too", BoundaryTest::partFillingOfNone);
        sentence("A PART FILLING gives all of the places, too", BoundaryTest::partFillingOfAll);
        sentence("Fillings are ordered by the value of place 0, then by that of place 1", BoundaryTest::orderOfFillings);
        sentence("No call ever throws (any arguments)", BoundaryTest::noCallThrows);
        sentence("No call ever throws (empty, full)", BoundaryTest::noQuestionThrowsInAnEmptyOrFullState);
        sentence("A refused call changes nothing", BoundaryTest::refusedCallsChangeNoAnswer);
        sentence("Nothing beyond the state changes described", BoundaryTest::questionsChangeNothing);
    }

    private static void promises1To4() {
        sentence("1: All domains are 127", BoundaryTest::newDomains);
        sentence("1: all capacities 1", BoundaryTest::newCapacities);
        sentence("1: A new object, beside another", BoundaryTest::newBesideAnother);
        sentence("2: The domain of place i becomes the set", BoundaryTest::domainBecomesTheSet);
        sentence("2: BAD_ARG if i is not 0 to 4", BoundaryTest::domainRefusesPlaces);
        sentence("2: BAD_ARG if set is not 0 to 127", BoundaryTest::domainRefusesSets);
        sentence("2: Otherwise the domain before", BoundaryTest::domainAnswersTheOneBefore);
        sentence("3: Value v is put into (in not 0)", BoundaryTest::allowPutsInForAnythingButZero);
        sentence("3: or taken out of (in 0)", BoundaryTest::allowTakesOutForZero);
        sentence("3: BAD_ARG if i is not 0 to 4", BoundaryTest::allowRefusesPlaces);
        sentence("3: BAD_ARG if v is not 0 to 6", BoundaryTest::allowRefusesValues);
        sentence("3: Otherwise 1 if it was in it before, else 0", BoundaryTest::allowAnswersWhetherItWasIn);
        sentence("4: The capacity of value v becomes c", BoundaryTest::capacityBecomesC);
        sentence("4: BAD_ARG if v is not 0 to 6", BoundaryTest::capacityRefusesValues);
        sentence("4: BAD_ARG if c is not 0 to 3", BoundaryTest::capacityRefusesCapacities);
        sentence("4: Otherwise the capacity before", BoundaryTest::capacityAnswersTheOneBefore);
    }

    private static void promises5To10() {
        sentence("5: Whether there is a filling", BoundaryTest::fillableAtTheEdge);
        sentence("6: The greatest number of places of a part filling", BoundaryTest::mostFrom0To5);
        sentence("7: The values that place i has in some filling", BoundaryTest::supportOfSomeFilling);
        sentence("7: 0 if there is none", BoundaryTest::supportIs0WithoutFilling);
        sentence("7: BAD_ARG if i is not 0 to 4", BoundaryTest::supportRefusesPlaces);
        sentence("8: Every domain becomes support of its place", BoundaryTest::pruneToSupport);
        sentence("8: if there is a filling. NONE if there is none", BoundaryTest::pruneWithoutFilling);
        sentence("8: Otherwise how many values went out of domains", BoundaryTest::pruneAnswersHowManyWentOut);
        sentence("9: The value of place i in the first filling", BoundaryTest::firstOfTheFirstFilling);
        sentence("9: NONE if there is none", BoundaryTest::firstWithoutFilling);
        sentence("9: BAD_ARG if i is not 0 to 4", BoundaryTest::firstRefusesPlaces);
        sentence("9: tested first", BoundaryTest::firstTestsThePlaceFirst);
        sentence("10: The number of fillings", BoundaryTest::countFromNoneToAll);
    }

    private static void promises11To16() {
        sentence("11: used as often as their capacity", BoundaryTest::exhaustedAsOftenAsCapacity);
        sentence("11: which is above 0", BoundaryTest::exhaustedHasCapacityAbove0);
        sentence("11: in every filling", BoundaryTest::exhaustedInEveryFilling);
        sentence("11: NONE if there is no filling", BoundaryTest::exhaustedWithoutFilling);
        sentence("12: The values that no filling uses", BoundaryTest::unusedByNoFilling);
        sentence("12: NONE if there is no filling", BoundaryTest::unusedWithoutFilling);
        sentence("13: The least number that is a set of places", BoundaryTest::lackIsTheLeastNumber);
        sentence("13: not empty", BoundaryTest::lackIsNotEmpty);
        sentence("13: less than the number of its places", BoundaryTest::lackIsLess);
        sentence("13: capacities that are together", BoundaryTest::lackCountsTogether);
        sentence("13: NONE if there is none", BoundaryTest::lackIsNone);
        sentence("14: together exactly the number of its places", BoundaryTest::tightIsExact);
        sentence("14: not empty", BoundaryTest::tightIsNotEmpty);
        sentence("15: How many places i there are", BoundaryTest::spareableFrom0To5);
        sentence("15: a part filling with most() places", BoundaryTest::spareableKeepsMost);
        sentence("16: The least number of units", BoundaryTest::missingFrom0To5);
        sentence("16: of any values, one or several", BoundaryTest::missingOfOneOrSeveralValues);
        sentence("16: however much they grow", BoundaryTest::missingGrowsAbove3);
        sentence("16: NONE if that can't be", BoundaryTest::missingCanNotBe);
        sentence("16: must grow (the call itself lets nothing grow)", BoundaryTest::missingGrowsNothing);
    }

    public static void main(String[] args) {
        terms();
        promises1To4();
        promises5To10();
        promises11To16();
        System.out.println(wrong == 0 ? "every sentence holds" : wrong + " answers are not as due");
        if (wrong != 0) {
            System.exit(1);
        }
    }
}
