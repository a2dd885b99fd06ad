/**
 * Five places to be filled with values that may each be used only so often: what can be filled,
 * what every place can still have, where it is tight.
 *
 * Every question about fillings is answered by going through all choices and looking at each one:
 * there are few enough of them, and the code then says what the document says.
 */
public final class TightDomains {
    /** An argument is out of its range. */
    public static final int BAD_ARG = -1;
    /** There is no filling, or no such thing. */
    public static final int NONE = -4;

    private static final int PLACES = 5;
    private static final int VALUES = 7;
    private static final int ALL_PLACES = (1 << PLACES) - 1;
    private static final int ALL_VALUES = (1 << VALUES) - 1;
    private static final int GREATEST_CAPACITY = 3;

    // A choice is a number with three bits for each place: the value chosen for it, or OUT.
    // Place 0 has the highest bits, so that growing numbers go through the fillings in their order.
    private static final int BITS = 3;
    private static final int CHOICES = 1 << (BITS * PLACES);
    private static final int DIGIT = (1 << BITS) - 1;
    private static final int OUT = VALUES;

    private final int[] domains = new int[PLACES];
    private final int[] capacities = new int[VALUES];

    /** All domains are 127, all capacities 1. */
    public TightDomains() {
        for (int i = 0; i < PLACES; i++) {
            domains[i] = ALL_VALUES;
        }
        for (int v = 0; v < VALUES; v++) {
            capacities[v] = 1;
        }
    }

    /** Makes the set the domain of place i; answers the domain before. */
    public int domain(int i, int set) {
        if (!isPlace(i) || set < 0 || set > ALL_VALUES) {
            return BAD_ARG;
        }
        int before = domains[i];
        domains[i] = set;
        return before;
    }

    /** Puts v into the domain of place i, or takes it out if in is 0; answers 1 if it was in it. */
    public int allow(int i, int v, int in) {
        if (!isPlace(i) || !isValue(v)) {
            return BAD_ARG;
        }
        boolean before = isIn(v, domains[i]);
        if (in != 0) {
            domains[i] |= 1 << v;
        } else {
            domains[i] &= ~(1 << v);
        }
        return before ? 1 : 0;
    }

    /** Makes c the capacity of value v; answers the capacity before. */
    public int capacity(int v, int c) {
        if (!isValue(v) || c < 0 || c > GREATEST_CAPACITY) {
            return BAD_ARG;
        }
        int before = capacities[v];
        capacities[v] = c;
        return before;
    }

    /** Whether there is a filling. */
    public boolean fillable() {
        return firstFilling() != NONE;
    }

    /** The greatest number of places of a part filling. */
    public int most() {
        int greatest = 0;
        for (int choice = 0; choice < CHOICES; choice++) {
            if (isPartFilling(choice)) {
                int out = leftOut(choice);
                int filled = PLACES - sizeOf(out);
                greatest = filled > greatest ? filled : greatest;
            }
        }
        return greatest;
    }

    /** The set of the values that place i has in some filling. */
    public int support(int i) {
        if (!isPlace(i)) {
            return BAD_ARG;
        }
        int set = 0;
        for (int choice = 0; choice < CHOICES; choice++) {
            if (isFilling(choice)) {
                set |= 1 << valueAt(choice, i);
            }
        }
        return set;
    }

    /** Makes every domain the support of its place; answers how many values went out. */
    public int prune() {
        if (firstFilling() == NONE) {
            return NONE;
        }
        int gone = 0;
        // A domain that is pruned keeps every filling, so the places can go one after the other.
        for (int i = 0; i < PLACES; i++) {
            int kept = support(i);
            gone += sizeOf(domains[i] & ~kept);
            domains[i] = kept;
        }
        return gone;
    }

    /** The value of place i in the first filling. */
    public int first(int i) {
        if (!isPlace(i)) {
            return BAD_ARG;
        }
        int filling = firstFilling();
        return filling == NONE ? NONE : valueAt(filling, i);
    }

    /** The number of fillings. */
    public int count() {
        int fillings = 0;
        for (int choice = 0; choice < CHOICES; choice++) {
            if (isFilling(choice)) {
                fillings++;
            }
        }
        return fillings;
    }

    /** The set of the values with a capacity above 0 that every filling uses up. */
    public int exhausted() {
        if (firstFilling() == NONE) {
            return NONE;
        }
        int set = ALL_VALUES;
        for (int choice = 0; choice < CHOICES; choice++) {
            if (isFilling(choice)) {
                set &= usedUp(choice);
            }
        }
        return set;
    }

    /** The set of the values that no filling uses. */
    public int unused() {
        if (firstFilling() == NONE) {
            return NONE;
        }
        int used = 0;
        for (int i = 0; i < PLACES; i++) {
            used |= support(i);
        }
        return ALL_VALUES & ~used;
    }

    /** The least set of places whose domains have less capacity than it has places. */
    public int lack() {
        for (int places = 1; places <= ALL_PLACES; places++) {
            if (room(places) < sizeOf(places)) {
                return places;
            }
        }
        return NONE;
    }

    /** How many sets of places have exactly as much capacity in their domains as places. */
    public int tight() {
        int sets = 0;
        for (int places = 1; places <= ALL_PLACES; places++) {
            if (room(places) == sizeOf(places)) {
                sets++;
            }
        }
        return sets;
    }

    /** How many places some part filling with most() places leaves out. */
    public int spareable() {
        int outside = PLACES - most();
        int spared = 0;
        for (int choice = 0; choice < CHOICES; choice++) {
            int out = leftOut(choice);
            if (sizeOf(out) == outside && isPartFilling(choice)) {
                spared |= out;
            }
        }
        return sizeOf(spared);
    }

    /** The least number of units by which capacities must grow for a filling. */
    public int missing() {
        for (int i = 0; i < PLACES; i++) {
            if (domains[i] == 0) {
                return NONE;
            }
        }
        // One unit lets at most one more place be filled, and a unit of any value in the domain of
        // a place left out lets that place be filled. Capacities may grow above 3 here.
        return PLACES - most();
    }

    private static boolean isPlace(int i) {
        return i >= 0 && i < PLACES;
    }

    private static boolean isValue(int v) {
        return v >= 0 && v < VALUES;
    }

    private static boolean isIn(int member, int set) {
        return ((set >> member) & 1) != 0;
    }

    /** How many members a set of places or of values has. */
    private static int sizeOf(int set) {
        int size = 0;
        for (int member = 0; member < VALUES; member++) {
            size += (set >> member) & 1;
        }
        return size;
    }

    /** The value that the choice has for place i, or OUT. */
    private static int valueAt(int choice, int i) {
        return (choice >> (BITS * (PLACES - 1 - i))) & DIGIT;
    }

    /** The set of the places that the choice gives no value. */
    private static int leftOut(int choice) {
        int set = 0;
        for (int i = 0; i < PLACES; i++) {
            if (valueAt(choice, i) == OUT) {
                set |= 1 << i;
            }
        }
        return set;
    }

    /** How many places the choice gives value v. */
    private static int usesOf(int choice, int v) {
        int uses = 0;
        for (int i = 0; i < PLACES; i++) {
            if (valueAt(choice, i) == v) {
                uses++;
            }
        }
        return uses;
    }

    private boolean isPartFilling(int choice) {
        // Three bits count the uses of each value: they hold 7, and there are 5 places.
        int uses = 0;
        for (int i = 0; i < PLACES; i++) {
            int v = valueAt(choice, i);
            if (v != OUT) {
                uses += 1 << (BITS * v);
                int usesNow = (uses >> (BITS * v)) & DIGIT;
                if (!isIn(v, domains[i]) || usesNow > capacities[v]) {
                    return false;
                }
            }
        }
        return true;
    }

    private boolean isFilling(int choice) {
        return isPartFilling(choice) && leftOut(choice) == 0;
    }

    /** The choice that is the first filling, or NONE. */
    private int firstFilling() {
        for (int choice = 0; choice < CHOICES; choice++) {
            if (isFilling(choice)) {
                return choice;
            }
        }
        return NONE;
    }

    /** The set of the values with a capacity above 0 that the choice uses as often as that. */
    private int usedUp(int choice) {
        int set = 0;
        for (int v = 0; v < VALUES; v++) {
            if (capacities[v] > 0 && usesOf(choice, v) == capacities[v]) {
                set |= 1 << v;
            }
        }
        return set;
    }

    /** The capacities of all values in the domains of the places, each value taken once. */
    private int room(int places) {
        int values = 0;
        for (int i = 0; i < PLACES; i++) {
            if (isIn(i, places)) {
                values |= domains[i];
            }
        }
        int together = 0;
        for (int v = 0; v < VALUES; v++) {
            if (isIn(v, values)) {
                together += capacities[v];
            }
        }
        return together;
    }
}
