import java.util.ArrayList;
import java.util.List;

// Long runs of calls, made from a fixed row of numbers, against a second reckoning that follows the
// document's words in another way: it lists all part fillings place by place, and reckons missing
// from what each choice would need.
public final class OracleTest {
    private static final int BAD_ARG = -1;
    private static final int NONE = -4;
    private static final int RUNS = 120;
    private static final int CALLS = 512;
    private static final int LEFT_OUT = -1;

    private static int wrong = 0;
    private static int fillableSeen = 0;
    private static int unfillableSeen = 0;
    private static long row = 88172645463325252L;

    private final int[] domains = {127, 127, 127, 127, 127};
    private final int[] capacities = {1, 1, 1, 1, 1, 1, 1};

    // What the state at hand holds; listed anew after each change.
    private final List<int[]> fillings = new ArrayList<>();
    private final int[] chosen = new int[5];
    private int greatest;
    private boolean[] spared;
    private int least;

    private OracleTest() {
        list();
    }

    private void list() {
        fillings.clear();
        greatest = 0;
        spared = new boolean[5];
        least = Integer.MAX_VALUE;
        goThroughPartFillings(0, 0);
        goThroughNeeds(0, 0, new int[7]);
        if (fillings.isEmpty()) {
            unfillableSeen++;
        } else {
            fillableSeen++;
        }
    }

    private void goThroughPartFillings(int place, int filled) {
        if (place == 5) {
            takePartFilling(filled);
            return;
        }
        for (int v = 0; v < 7; v++) {
            if ((domains[place] & (1 << v)) != 0 && timesBefore(place, v) < capacities[v]) {
                chosen[place] = v;
                goThroughPartFillings(place + 1, filled + 1);
            }
        }
        chosen[place] = LEFT_OUT;
        goThroughPartFillings(place + 1, filled);
    }

    private int timesBefore(int place, int v) {
        int times = 0;
        for (int i = 0; i < place; i++) {
            times += chosen[i] == v ? 1 : 0;
        }
        return times;
    }

    private void takePartFilling(int filled) {
        if (filled == 5) {
            fillings.add(chosen.clone());
        }
        if (filled > greatest) {
            greatest = filled;
            spared = new boolean[5];
        }
        if (filled == greatest) {
            for (int i = 0; i < 5; i++) {
                spared[i] |= chosen[i] == LEFT_OUT;
            }
        }
    }

    private void goThroughNeeds(int place, int need, int[] uses) {
        if (need >= least) {
            return;
        }
        if (place == 5) {
            least = need;
            return;
        }
        for (int v = 0; v < 7; v++) {
            if ((domains[place] & (1 << v)) != 0) {
                uses[v]++;
                goThroughNeeds(place + 1, need + (uses[v] > capacities[v] ? 1 : 0), uses);
                uses[v]--;
            }
        }
    }

    private int domain(int i, int set) {
        if (i < 0 || i > 4 || set < 0 || set > 127) {
            return BAD_ARG;
        }
        int before = domains[i];
        domains[i] = set;
        list();
        return before;
    }

    private int allow(int i, int v, int in) {
        if (i < 0 || i > 4 || v < 0 || v > 6) {
            return BAD_ARG;
        }
        int power = 1 << v;
        int before = (domains[i] & power) == power ? 1 : 0;
        if (before == 0 && in != 0) {
            domains[i] += power;
        }
        if (before == 1 && in == 0) {
            domains[i] -= power;
        }
        list();
        return before;
    }

    private int capacity(int v, int c) {
        if (v < 0 || v > 6 || c < 0 || c > 3) {
            return BAD_ARG;
        }
        int before = capacities[v];
        capacities[v] = c;
        list();
        return before;
    }

    private int support(int i) {
        if (i < 0 || i > 4) {
            return BAD_ARG;
        }
        boolean[] has = new boolean[7];
        for (int[] filling : fillings) {
            has[filling[i]] = true;
        }
        return setOf(has);
    }

    private int prune() {
        if (fillings.isEmpty()) {
            return NONE;
        }
        int gone = 0;
        for (int i = 0; i < 5; i++) {
            int kept = support(i);
            gone += Integer.bitCount(domains[i]) - Integer.bitCount(kept);
            domains[i] = kept;
        }
        return gone;
    }

    private int first(int i) {
        if (i < 0 || i > 4) {
            return BAD_ARG;
        }
        return fillings.isEmpty() ? NONE : fillings.get(0)[i];
    }

    private int exhausted() {
        if (fillings.isEmpty()) {
            return NONE;
        }
        boolean[] has = new boolean[7];
        for (int v = 0; v < 7; v++) {
            has[v] = capacities[v] > 0;
            for (int[] filling : fillings) {
                has[v] &= times(filling, v) == capacities[v];
            }
        }
        return setOf(has);
    }

    private int unused() {
        if (fillings.isEmpty()) {
            return NONE;
        }
        boolean[] has = new boolean[7];
        for (int v = 0; v < 7; v++) {
            has[v] = true;
            for (int[] filling : fillings) {
                has[v] &= times(filling, v) == 0;
            }
        }
        return setOf(has);
    }

    private static int times(int[] filling, int v) {
        int times = 0;
        for (int value : filling) {
            times += value == v ? 1 : 0;
        }
        return times;
    }

    private static int setOf(boolean[] has) {
        int set = 0;
        for (int v = 0; v < has.length; v++) {
            set += has[v] ? 1 << v : 0;
        }
        return set;
    }

    // How much capacity a set of places has beyond one unit for each place.
    private int slack(int places) {
        int slack = -Integer.bitCount(places);
        for (int v = 0; v < 7; v++) {
            boolean had = false;
            for (int i = 0; i < 5; i++) {
                had |= (places >> i) % 2 == 1 && (domains[i] >> v) % 2 == 1;
            }
            slack += had ? capacities[v] : 0;
        }
        return slack;
    }

    private int lack() {
        for (int places = 1; places < 32; places++) {
            if (slack(places) < 0) {
                return places;
            }
        }
        return NONE;
    }

    private int tight() {
        int sets = 0;
        for (int places = 1; places < 32; places++) {
            sets += slack(places) == 0 ? 1 : 0;
        }
        return sets;
    }

    private int spareable() {
        return Integer.bitCount(setOf(spared));
    }

    private int missing() {
        return least == Integer.MAX_VALUE ? NONE : least;
    }

    private static int draw(int below) {
        row ^= row << 13;
        row ^= row >>> 7;
        row ^= row << 17;
        return (int) Long.remainderUnsigned(row, below);
    }

    // Mostly in the range from 0 to last, now and then out of it.
    private static int drawArgument(int last) {
        int[] outside = {-1, last + 1, last + 2, -last, 32, Integer.MIN_VALUE, Integer.MAX_VALUE};
        return draw(20) == 0 ? outside[draw(outside.length)] : draw(last + 1);
    }

    // Few values in most sets, so that it is often tight; sparse runs go below what can be filled.
    private static int drawSet(boolean sparse) {
        int kind = draw(20);
        if (kind == 0) {
            return drawArgument(127);
        }
        int set = 1 << draw(7);
        int more = sparse ? draw(3) : draw(6);
        for (int n = 0; n < more; n++) {
            set |= 1 << draw(7);
        }
        return kind == 1 ? 0 : set;
    }

    private static void due(int run, int call, String what, int got, int want) {
        if (got != want) {
            wrong++;
            System.out.println("run " + run + ", call " + call + ": " + what + " answered " + got + ", due is " + want);
        }
    }

    private static void change(int run, int call, TightDomains x, OracleTest o, boolean sparse) {
        int kind = draw(10);
        if (kind < 4) {
            int i = drawArgument(4);
            int set = drawSet(sparse);
            due(run, call, "domain(" + i + ", " + set + ")", x.domain(i, set), o.domain(i, set));
        } else if (kind < 6) {
            int i = drawArgument(4);
            int v = drawArgument(6);
            int in = drawArgument(1);
            due(run, call, "allow(" + i + ", " + v + ", " + in + ")", x.allow(i, v, in), o.allow(i, v, in));
        } else if (kind < 9) {
            int v = drawArgument(6);
            int c = drawArgument(3);
            due(run, call, "capacity(" + v + ", " + c + ")", x.capacity(v, c), o.capacity(v, c));
        } else {
            due(run, call, "prune()", x.prune(), o.prune());
        }
    }

    private static void ask(int run, int call, TightDomains x, OracleTest o) {
        int i = drawArgument(4);
        switch (draw(12)) {
            case 0 -> due(run, call, "fillable()", x.fillable() ? 1 : 0, o.fillings.isEmpty() ? 0 : 1);
            case 1 -> due(run, call, "most()", x.most(), o.greatest);
            case 2 -> due(run, call, "support(" + i + ")", x.support(i), o.support(i));
            case 3 -> due(run, call, "first(" + i + ")", x.first(i), o.first(i));
            case 4 -> due(run, call, "count()", x.count(), o.fillings.size());
            case 5 -> due(run, call, "exhausted()", x.exhausted(), o.exhausted());
            case 6 -> due(run, call, "unused()", x.unused(), o.unused());
            case 7 -> due(run, call, "lack()", x.lack(), o.lack());
            case 8 -> due(run, call, "tight()", x.tight(), o.tight());
            case 9 -> due(run, call, "spareable()", x.spareable(), o.spareable());
            case 10 -> due(run, call, "missing()", x.missing(), o.missing());
            default -> due(run, call, "support(" + i + ")", x.support(i), o.support(i));
        }
    }

    public static void main(String[] args) {
        for (int run = 1; run <= RUNS; run++) {
            TightDomains x = new TightDomains();
            OracleTest o = new OracleTest();
            for (int call = 1; call <= CALLS; call++) {
                if (draw(3) == 0) {
                    change(run, call, x, o, run % 2 == 0);
                } else {
                    ask(run, call, x, o);
                }
            }
        }
        // Runs that never met one of the two kinds of state would prove little.
        if (fillableSeen < 1000 || unfillableSeen < 1000) {
            wrong++;
            System.out.println("states: " + fillableSeen + " fillable, " + unfillableSeen + " not");
        }
        System.out.println(wrong == 0 ? "all answers are as due" : wrong + " answers are not as due");
        if (wrong != 0) {
            System.exit(1);
        }
    }
}
