// Each promise of the document by itself: ordinary inputs, the edges it names, and wrong inputs.
// The answers due were worked out by hand from the document's words.
public final class PromiseTest {
    private static final int BAD_ARG = -1;
    private static final int NONE = -4;
    private static final int[] NO_PLACES = {-1, 5, 6, 31, 32, -32, Integer.MIN_VALUE, Integer.MAX_VALUE};
    private static final int[] NO_VALUES = {-1, 7, 8, 31, 32, -32, Integer.MIN_VALUE, Integer.MAX_VALUE};
    private static final int[] NO_SETS = {-1, 128, 129, 255, -128, Integer.MIN_VALUE, Integer.MAX_VALUE};
    private static final int[] NO_CAPACITIES = {-1, 4, 5, 7, -3, Integer.MIN_VALUE, Integer.MAX_VALUE};

    private static int wrong = 0;

    private static void due(String what, int got, int want) {
        if (got != want) {
            wrong++;
            System.out.println(what + " answered " + got + ", due is " + want);
        }
    }

    private static void due(String what, boolean got, boolean want) {
        due(what, got ? 1 : 0, want ? 1 : 0);
    }

    private static TightDomains withDomains(int... sets) {
        TightDomains x = new TightDomains();
        for (int i = 0; i < 5; i++) {
            x.domain(i, sets[i]);
        }
        return x;
    }

    private static TightDomains setCapacities(TightDomains x, int... capacities) {
        for (int v = 0; v < 7; v++) {
            x.capacity(v, capacities[v]);
        }
        return x;
    }

    private static TightDomains withCapacities(int... capacities) {
        return setCapacities(new TightDomains(), capacities);
    }

    // The face only tells a domain or a capacity while it changes it, so it is put back after.
    private static int domainOf(TightDomains x, int i) {
        int set = x.domain(i, 0);
        x.domain(i, set);
        return set;
    }

    private static int capacityOf(TightDomains x, int v) {
        int c = x.capacity(v, 0);
        x.capacity(v, c);
        return c;
    }

    private static void dueDomains(String what, TightDomains x, int... sets) {
        for (int i = 0; i < 5; i++) {
            due(what + ": domain of " + i, domainOf(x, i), sets[i]);
        }
    }

    private static void dueCapacities(String what, TightDomains x, int... capacities) {
        for (int v = 0; v < 7; v++) {
            due(what + ": capacity of " + v, capacityOf(x, v), capacities[v]);
        }
    }

    private static void promise1NewObject() {
        TightDomains x = new TightDomains();
        dueDomains("1 new", x, 127, 127, 127, 127, 127);
        dueCapacities("1 new", x, 1, 1, 1, 1, 1, 1, 1);
        x.domain(2, 5);
        x.capacity(3, 2);
        TightDomains y = new TightDomains();
        dueDomains("1 a second object", y, 127, 127, 127, 127, 127);
        dueCapacities("1 a second object", y, 1, 1, 1, 1, 1, 1, 1);
        due("1 BAD_ARG", TightDomains.BAD_ARG, BAD_ARG);
        due("1 NONE", TightDomains.NONE, NONE);
    }

    private static void promise2Domain() {
        TightDomains x = new TightDomains();
        for (int i = 0; i < 5; i++) {
            due("2 domain from 127", x.domain(i, 10 + i), 127);
        }
        dueDomains("2 all set", x, 10, 11, 12, 13, 14);
        due("2 to the empty set", x.domain(0, 0), 10);
        due("2 from the empty set", x.domain(0, 127), 0);
        due("2 to the same set", x.domain(0, 127), 127);
        for (int i : NO_PLACES) {
            due("2 domain(" + i + ", 3)", x.domain(i, 3), BAD_ARG);
            due("2 domain(" + i + ", 128)", x.domain(i, 128), BAD_ARG);
        }
        for (int set : NO_SETS) {
            for (int i = 0; i < 5; i++) {
                due("2 domain(" + i + ", " + set + ")", x.domain(i, set), BAD_ARG);
            }
        }
        dueDomains("2 after refusals", x, 127, 11, 12, 13, 14);
        dueCapacities("2 after refusals", x, 1, 1, 1, 1, 1, 1, 1);
    }

    private static void promise3Allow() {
        TightDomains x = withDomains(0, 0, 0, 0, 127);
        for (int v = 0; v < 7; v++) {
            due("3 put in " + v, x.allow(v % 4, v, 1), 0);
            due("3 put in again " + v, x.allow(v % 4, v, 1), 1);
        }
        dueDomains("3 all put in", x, 17, 34, 68, 8, 127);
        for (int v = 1; v < 7; v++) {
            due("3 take out " + v, x.allow(4, v, 0), 1);
            due("3 take out again " + v, x.allow(4, v, 0), 0);
        }
        dueDomains("3 all taken out", x, 17, 34, 68, 8, 1);
        int[] notZero = {2, -1, 128, 256, 65536, Integer.MIN_VALUE, Integer.MAX_VALUE};
        for (int in : notZero) {
            x.domain(3, 8);
            due("3 in = " + in, x.allow(3, 6, in), 0);
            due("3 domain after in = " + in, domainOf(x, 3), 72);
        }
        for (int i : NO_PLACES) {
            due("3 allow(" + i + ", 0, 1)", x.allow(i, 0, 1), BAD_ARG);
            due("3 allow(" + i + ", 0, 0)", x.allow(i, 0, 0), BAD_ARG);
        }
        for (int v : NO_VALUES) {
            for (int i = 0; i < 5; i++) {
                due("3 allow(" + i + ", " + v + ", 1)", x.allow(i, v, 1), BAD_ARG);
                due("3 allow(" + i + ", " + v + ", 0)", x.allow(i, v, 0), BAD_ARG);
            }
        }
        dueDomains("3 after refusals", x, 17, 34, 68, 72, 1);
        dueCapacities("3 after refusals", x, 1, 1, 1, 1, 1, 1, 1);
    }

    private static void promise4Capacity() {
        TightDomains x = new TightDomains();
        for (int v = 0; v < 7; v++) {
            due("4 capacity from 1", x.capacity(v, v % 4), 1);
        }
        dueCapacities("4 all set", x, 0, 1, 2, 3, 0, 1, 2);
        due("4 to 3", x.capacity(0, 3), 0);
        due("4 to the same", x.capacity(0, 3), 3);
        due("4 to 0", x.capacity(0, 0), 3);
        for (int v : NO_VALUES) {
            due("4 capacity(" + v + ", 2)", x.capacity(v, 2), BAD_ARG);
            due("4 capacity(" + v + ", 4)", x.capacity(v, 4), BAD_ARG);
        }
        for (int c : NO_CAPACITIES) {
            for (int v = 0; v < 7; v++) {
                due("4 capacity(" + v + ", " + c + ")", x.capacity(v, c), BAD_ARG);
            }
        }
        dueCapacities("4 after refusals", x, 0, 1, 2, 3, 0, 1, 2);
        dueDomains("4 after refusals", x, 127, 127, 127, 127, 127);
    }

    private static void promise5Fillable() {
        due("5 new", new TightDomains().fillable(), true);
        due("5 no capacity", withCapacities(0, 0, 0, 0, 0, 0, 0).fillable(), false);
        due("5 capacities of 4", withCapacities(0, 0, 0, 1, 0, 3, 0).fillable(), false);
        due("5 capacities of 5", withCapacities(0, 0, 0, 2, 0, 3, 0).fillable(), true);
        due("5 one empty domain", withDomains(127, 127, 127, 127, 0).fillable(), false);
        due("5 only the last values", withDomains(64, 32, 16, 8, 4).fillable(), true);
        due("5 one value twice", withDomains(64, 64, 16, 8, 4).fillable(), false);
        due("5 a chain", withDomains(3, 6, 12, 24, 1).fillable(), true);
        due("5 a chain too short", withDomains(3, 6, 12, 8, 1).fillable(), false);
        due("5 one value, capacity 3", setCapacities(withDomains(1, 1, 1, 2, 4), 3, 1, 1, 0, 0, 0, 0).fillable(), true);
        due("5 one value, capacity 2", setCapacities(withDomains(1, 1, 1, 2, 4), 2, 3, 3, 3, 3, 3, 3).fillable(), false);
    }

    private static void promise6Most() {
        due("6 new", new TightDomains().most(), 5);
        due("6 no capacity", withCapacities(0, 0, 0, 0, 0, 0, 0).most(), 0);
        due("6 empty domains", withDomains(0, 0, 0, 0, 0).most(), 0);
        due("6 one domain", withDomains(0, 0, 0, 0, 64).most(), 1);
        due("6 one capacity of 3", withCapacities(0, 0, 0, 0, 0, 0, 3).most(), 3);
        due("6 one value, capacity 1", withDomains(1, 1, 1, 1, 1).most(), 1);
        due("6 two values for five", withDomains(3, 3, 3, 3, 3).most(), 2);
        due("6 not greedy", withDomains(3, 1, 0, 0, 0).most(), 2);
        due("6 three for one, two for two", withDomains(1, 1, 1, 6, 6).most(), 3);
        due("6 capacities above need", withCapacities(3, 3, 3, 3, 3, 3, 3).most(), 5);
    }

    private static void promise7Support() {
        TightDomains pair = withDomains(3, 3, 7, 127, 64);
        int[] pairSupport = {3, 3, 4, 56, 64};
        for (int i = 0; i < 5; i++) {
            due("7 a pair: support(" + i + ")", pair.support(i), pairSupport[i]);
            due("7 new: support(" + i + ")", new TightDomains().support(i), 127);
            due("7 no filling: support(" + i + ")", withDomains(1, 1, 127, 127, 127).support(i), 0);
        }
        dueDomains("7 support changes nothing", pair, 3, 3, 7, 127, 64);
        due("7 capacity 0", withCapacities(1, 0, 1, 1, 1, 1, 1).support(4), 125);
        TightDomains wider = setCapacities(withDomains(3, 3, 7, 127, 64), 2, 1, 1, 1, 1, 1, 1);
        due("7 a pair with capacity left", wider.support(2), 7);
        for (int i : NO_PLACES) {
            due("7 support(" + i + ")", pair.support(i), BAD_ARG);
            due("7 no filling: support(" + i + ")", withDomains(0, 0, 0, 0, 0).support(i), BAD_ARG);
        }
    }

    private static void promise8Prune() {
        TightDomains x = withDomains(3, 3, 7, 127, 64);
        due("8 a pair", x.prune(), 6);
        dueDomains("8 pruned", x, 3, 3, 4, 56, 64);
        due("8 again", x.prune(), 0);
        dueDomains("8 pruned again", x, 3, 3, 4, 56, 64);
        TightDomains free = new TightDomains();
        due("8 new", free.prune(), 0);
        dueDomains("8 new", free, 127, 127, 127, 127, 127);
        TightDomains narrow = withCapacities(0, 0, 3, 0, 0, 0, 2);
        due("8 values without capacity", narrow.prune(), 25);
        dueDomains("8 values without capacity", narrow, 68, 68, 68, 68, 68);
        dueCapacities("8 prune leaves capacities", narrow, 0, 0, 3, 0, 0, 0, 2);
        TightDomains none = withDomains(3, 3, 3, 127, 64);
        due("8 no filling", none.prune(), NONE);
        dueDomains("8 no filling", none, 3, 3, 3, 127, 64);
    }

    private static void promise9First() {
        TightDomains back = withDomains(3, 1, 14, 4, 127);
        int[] backFirst = {1, 0, 3, 2, 4};
        TightDomains often = withCapacities(3, 1, 2, 1, 1, 1, 1);
        int[] oftenFirst = {0, 0, 0, 1, 2};
        TightDomains high = withDomains(64, 32, 16, 8, 4);
        TightDomains none = withDomains(1, 1, 127, 127, 127);
        for (int i = 0; i < 5; i++) {
            due("9 new: first(" + i + ")", new TightDomains().first(i), i);
            due("9 the least values are taken: first(" + i + ")", back.first(i), backFirst[i]);
            due("9 a value often: first(" + i + ")", often.first(i), oftenFirst[i]);
            due("9 only one filling: first(" + i + ")", high.first(i), 6 - i);
            due("9 no filling: first(" + i + ")", none.first(i), NONE);
        }
        // Place 0 counts before place 1: 0, 6 comes before 1, 0.
        TightDomains order = withDomains(3, 65, 4, 8, 16);
        due("9 place 0 first", order.first(0), 0);
        due("9 then place 1", order.first(1), 6);
        for (int i : NO_PLACES) {
            due("9 first(" + i + ")", often.first(i), BAD_ARG);
            due("9 no filling: first(" + i + ")", none.first(i), BAD_ARG);
        }
    }

    private static void promise10Count() {
        due("10 new", new TightDomains().count(), 2520);
        due("10 capacities 2", withCapacities(2, 2, 2, 2, 2, 2, 2).count(), 14070);
        due("10 capacities 3", withCapacities(3, 3, 3, 3, 3, 3, 3).count(), 16590);
        due("10 two values", withCapacities(0, 3, 0, 0, 0, 3, 0).count(), 20);
        due("10 one filling", withDomains(64, 32, 16, 8, 4).count(), 1);
        due("10 two fillings", withDomains(3, 3, 4, 8, 16).count(), 2);
        due("10 no filling", withDomains(3, 3, 3, 8, 16).count(), 0);
        due("10 no capacity", withCapacities(0, 0, 0, 0, 0, 0, 0).count(), 0);
        due("10 an empty domain", withDomains(127, 0, 127, 127, 127).count(), 0);
    }

    private static void promise11Exhausted() {
        due("11 new", new TightDomains().exhausted(), 0);
        due("11 a pair and a single", withDomains(3, 3, 127, 127, 64).exhausted(), 67);
        due("11 just enough", withCapacities(0, 3, 0, 2, 0, 0, 0).exhausted(), 10);
        due("11 in some fillings only", withCapacities(3, 3, 0, 0, 0, 0, 0).exhausted(), 0);
        due("11 used, but not up", setCapacities(withDomains(1, 2, 4, 8, 16), 2, 1, 3, 1, 1, 0, 1).exhausted(), 26);
        due("11 capacity 2 used up", setCapacities(withDomains(1, 1, 4, 8, 16), 2, 1, 1, 1, 1, 0, 1).exhausted(), 29);
        due("11 five of six", withCapacities(1, 1, 1, 1, 1, 1, 0).exhausted(), 0);
        due("11 no filling", withDomains(0, 1, 2, 4, 8).exhausted(), NONE);
        due("11 no capacity", withCapacities(0, 0, 0, 0, 0, 0, 0).exhausted(), NONE);
    }

    private static void promise12Unused() {
        due("12 new", new TightDomains().unused(), 0);
        due("12 in no domain", withDomains(3, 3, 12, 12, 16).unused(), 96);
        due("12 capacity 0", withCapacities(1, 0, 1, 1, 1, 1, 1).unused(), 2);
        due("12 capacity 0 in one domain", setCapacities(withDomains(1, 2, 4, 8, 48), 1, 1, 1, 1, 1, 0, 1).unused(), 96);
        due("12 not in the first filling", withDomains(1, 2, 4, 8, 112).unused(), 0);
        due("12 in place 0 alone", withDomains(65, 1, 2, 4, 8).unused(), 48);
        due("12 not used up", setCapacities(withDomains(1, 1, 3, 3, 3), 3, 3, 1, 1, 1, 1, 1).unused(), 124);
        due("12 no filling", withDomains(1, 1, 127, 127, 127).unused(), NONE);
        due("12 an empty domain", withDomains(127, 127, 127, 127, 0).unused(), NONE);
    }

    private static void promise13Lack() {
        due("13 new", new TightDomains().lack(), NONE);
        due("13 exactly enough", withDomains(31, 31, 31, 31, 31).lack(), NONE);
        due("13 all five", withDomains(15, 15, 15, 15, 15).lack(), 31);
        due("13 the last two", withDomains(7, 7, 7, 8, 8).lack(), 24);
        due("13 an empty domain", withDomains(127, 127, 127, 0, 127).lack(), 8);
        due("13 least number, not fewest places", withDomains(1, 1, 0, 127, 127).lack(), 3);
        due("13 least of two", withDomains(127, 1, 1, 1, 2).lack(), 6);
        due("13 a value counts once", withDomains(1, 3, 2, 127, 127).lack(), 7);
        due("13 the last alone", setCapacities(withDomains(1, 2, 4, 8, 16), 1, 1, 1, 1, 0, 1, 1).lack(), 16);
        due("13 no capacity", withCapacities(0, 0, 0, 0, 0, 0, 0).lack(), 1);
        due("13 capacity 2 for three", setCapacities(withDomains(1, 1, 1, 2, 4), 2, 1, 1, 1, 1, 1, 1).lack(), 7);
        due("13 capacity 3 for three", setCapacities(withDomains(1, 1, 1, 2, 4), 3, 1, 1, 1, 1, 1, 1).lack(), NONE);
    }

    private static void promise14Tight() {
        due("14 new", new TightDomains().tight(), 0);
        due("14 each its own", withDomains(1, 2, 4, 8, 16).tight(), 31);
        due("14 all five only", withDomains(31, 31, 31, 31, 31).tight(), 1);
        due("14 no capacity: the empty set is not one", withCapacities(0, 0, 0, 0, 0, 0, 0).tight(), 0);
        due("14 too little is not tight", withDomains(1, 1, 1, 1, 1).tight(), 5);
        due("14 a pair", withDomains(3, 3, 127, 127, 127).tight(), 1);
        due("14 a capacity of 3", setCapacities(withDomains(1, 1, 1, 127, 127), 3, 1, 1, 1, 1, 1, 1).tight(), 1);
        due("14 pairs out of five", setCapacities(withDomains(1, 1, 1, 1, 1), 2, 1, 1, 1, 1, 1, 1).tight(), 10);
        due("14 with empty domains", withDomains(0, 0, 1, 126, 126).tight(), 1);
    }

    private static void promise15Spareable() {
        due("15 new", new TightDomains().spareable(), 0);
        due("15 no capacity", withCapacities(0, 0, 0, 0, 0, 0, 0).spareable(), 5);
        due("15 no domains", withDomains(0, 0, 0, 0, 0).spareable(), 5);
        due("15 one empty domain", withDomains(127, 127, 127, 127, 0).spareable(), 1);
        due("15 three for two", withDomains(3, 3, 3, 8, 16).spareable(), 3);
        due("15 two for one", withDomains(1, 2, 4, 64, 64).spareable(), 2);
        due("15 two for one, twice", withDomains(1, 1, 4, 64, 64).spareable(), 4);
        due("15 a chain to the lack", withDomains(1, 3, 6, 4, 64).spareable(), 4);
        due("15 an empty domain beside a lack", withDomains(0, 1, 1, 2, 4).spareable(), 3);
        due("15 four units", withCapacities(3, 0, 0, 1, 0, 0, 0).spareable(), 5);
    }

    private static void promise16Missing() {
        due("16 new", new TightDomains().missing(), 0);
        due("16 no capacity", withCapacities(0, 0, 0, 0, 0, 0, 0).missing(), 5);
        due("16 above 3", setCapacities(withDomains(1, 1, 1, 1, 1), 3, 0, 0, 0, 0, 0, 0).missing(), 2);
        due("16 one value from 0", setCapacities(withDomains(1, 1, 1, 1, 1), 0, 3, 3, 3, 3, 3, 3).missing(), 5);
        due("16 one value from 1", withDomains(64, 64, 64, 64, 64).missing(), 4);
        due("16 several values", withDomains(1, 1, 4, 64, 64).missing(), 2);
        due("16 one unit", withDomains(3, 3, 3, 8, 16).missing(), 1);
        due("16 an empty domain", withDomains(127, 127, 127, 127, 0).missing(), NONE);
        due("16 the first domain empty", withDomains(0, 127, 127, 127, 127).missing(), NONE);
        due("16 an empty domain and a lack", withDomains(1, 1, 0, 64, 64).missing(), NONE);
    }

    public static void main(String[] args) {
        promise1NewObject();
        promise2Domain();
        promise3Allow();
        promise4Capacity();
        promise5Fillable();
        promise6Most();
        promise7Support();
        promise8Prune();
        promise9First();
        promise10Count();
        promise11Exhausted();
        promise12Unused();
        promise13Lack();
        promise14Tight();
        promise15Spareable();
        promise16Missing();
        System.out.println(wrong == 0 ? "all answers are as due" : wrong + " answers are not as due");
        if (wrong != 0) {
            System.exit(1);
        }
    }
}
