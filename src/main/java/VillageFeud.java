import java.util.NoSuchElementException;

/**
 * A village whose households are tied by bonds, and what it costs to part it.
 *
 * <p>A set of households is a number with the bit k for the household k. The rows for reckoning
 * stand since the constructor and are used again, so that calls leave nothing behind.
 */
public final class VillageFeud {
    private static final int MOST_HOUSEHOLDS = 9;
    private static final int MOST_PHASES = MOST_HOUSEHOLDS - 1;
    private static final int MOST_DIVISIONS = 1 << (MOST_HOUSEHOLDS - 1);
    private static final int MOST_WEIGHT = 99;
    private static final int MOST_CHANGES = 8;
    private static final int ABOVE_ALL_FEUDS = 2147483647;
    private static final int LONGEST_TEXT = 60;
    private static final int SHORTEST_ORDER = 4;
    private static final int MOST_ORDERS = LONGEST_TEXT / SHORTEST_ORDER;
    private static final int FIRST_CODE = 32;
    private static final int LAST_CODE = 126;

    private static final int HOUSE = 0;
    private static final int GO = 1;
    private static final int BOND = 2;
    private static final int LOOSE = 3;
    private static final int MARRY = 4;
    private static final int SIDE = 5;
    private static final int PART = 6;

    private static final int IS_FULL = 1;
    private static final int IS_MISSING = 2;
    private static final int IS_ONE = 3;
    private static final int IS_OUT_OF_RANGE = 4;
    private static final int IS_SO_ALREADY = 5;
    private static final int HAS_NO_BOND = 6;
    private static final int HAS_TOO_FEW = 7;
    private static final int HAS_REFUSED_ORDER = 8;

    private final Village village = new Village();
    private final Village trial = new Village();
    private final Village ahead = new Village();
    private final History history = new History();
    private final Phases course = new Phases();
    private final Divisions divisions = new Divisions();
    private final Flow flow = new Flow();
    private final Text text = new Text();
    private final Refusal refusal = new Refusal();
    private final StringBuilder line = new StringBuilder();
    private final int[] keys = new int[MOST_HOUSEHOLDS];
    private Village saved = null;

    public VillageFeud() {
    }

    public int household() throws UnsupportedOperationException {
        if (refuses(HOUSE, 0, 0, 0)) {
            throw new UnsupportedOperationException("the village is full");
        }
        return changed(HOUSE, 0, 0, 0);
    }

    public int leave(int household) throws UnsupportedOperationException {
        if (refuses(GO, household, 0, 0)) {
            throw new UnsupportedOperationException("there is no such household");
        }
        return changed(GO, household, 0, 0);
    }

    public int bond(int one, int other, int weight) throws UnsupportedOperationException {
        if (refuses(BOND, one, other, weight)) {
            throw new UnsupportedOperationException("the bond is refused");
        }
        return changed(BOND, one, other, weight);
    }

    public int loosen(int one, int other) throws UnsupportedOperationException {
        if (refuses(LOOSE, one, other, 0)) {
            throw new UnsupportedOperationException("the bond cannot be loosened");
        }
        return changed(LOOSE, one, other, 0);
    }

    public int marry(int one, int other) throws UnsupportedOperationException {
        if (refuses(MARRY, one, other, 0)) {
            throw new UnsupportedOperationException("the marriage is refused");
        }
        return changed(MARRY, one, other, 0);
    }

    public int stand(int household, int side) throws UnsupportedOperationException {
        if (refuses(SIDE, household, side, 0)) {
            throw new UnsupportedOperationException("the side is refused");
        }
        return changed(SIDE, household, side, 0);
    }

    public int part() throws UnsupportedOperationException {
        if (refuses(PART, 0, 0, 0)) {
            throw new UnsupportedOperationException("there are fewer than two households");
        }
        return changed(PART, 0, 0, 0);
    }

    public int weight(int one, int other) throws IndexOutOfBoundsException {
        if (!village.has(one) || !village.has(other)) {
            throw new IndexOutOfBoundsException("there is no such household");
        }
        return village.tie(one, other);
    }

    public int householdOf(int household, int what)
            throws IndexOutOfBoundsException, IllegalArgumentException {
        if (!village.has(household)) {
            throw new IndexOutOfBoundsException("there is no such household");
        }
        switch (what) {
            case 0:
                return village.sideOf(household);
            case 1:
                return village.bondsOf(household);
            case 2:
                return village.tieToSet(household, village.everyone());
            case 3:
                return village.tieToSet(household, village.sameSide(household));
            case 4:
                return village.tieToSet(household, village.otherSide(household));
            case 5:
                return village.closestTo(household);
            default:
                throw new IllegalArgumentException("what is not 0 to 5");
        }
    }

    public int tied(int set, int other) throws IllegalArgumentException {
        if (!village.hasAll(set) || !village.hasAll(other) || (set & other) != 0) {
            throw new IllegalArgumentException("these are not two sets of households apart");
        }
        return village.tieOfSets(set, other);
    }

    public int feud() {
        return village.feudByBonds();
    }

    public int feudAgain() {
        return village.feudByHalves();
    }

    public int phases() {
        return village.phaseCount();
    }

    public int phaseOf(int phase, int what)
            throws IndexOutOfBoundsException, IllegalArgumentException {
        if (!hasPhase(phase)) {
            throw new IndexOutOfBoundsException("there is no such phase");
        }
        course.measure(village);
        int groups = course.groupsIn(phase);
        switch (what) {
            case 0:
                return course.cutOf(phase);
            case 1:
                return groups;
            case 2:
                return lowestOf(course.groupAt(phase, groups - 1));
            case 3:
                return lowestOf(course.groupAt(phase, groups - 2));
            case 4:
                return course.groupAt(phase, groups - 1);
            default:
                throw new IllegalArgumentException("what is not 0 to 4");
        }
    }

    public int joined(int phase, int place)
            throws IndexOutOfBoundsException, NoSuchElementException {
        if (!hasPhase(phase)) {
            throw new IndexOutOfBoundsException("there is no such phase");
        }
        course.measure(village);
        if (!course.hasPlace(phase, place)) {
            throw new NoSuchElementException("there is no such place");
        }
        return lowestOf(course.groupAt(phase, place));
    }

    public int tieAt(int phase, int place)
            throws IndexOutOfBoundsException, NoSuchElementException {
        if (!hasPhase(phase)) {
            throw new IndexOutOfBoundsException("there is no such phase");
        }
        course.measure(village);
        if (!course.hasPlace(phase, place)) {
            throw new NoSuchElementException("there is no such place");
        }
        return course.pullAt(phase, place);
    }

    public int least() throws NoSuchElementException {
        if (isTooSmall()) {
            throw new NoSuchElementException("there are fewer than two households");
        }
        return leastByPhases(village);
    }

    public int leastAgain() throws NoSuchElementException {
        if (isTooSmall()) {
            throw new NoSuchElementException("there are fewer than two households");
        }
        divisions.measure(village);
        return divisions.leastFeud();
    }

    public int met() throws NoSuchElementException {
        if (isTooSmall()) {
            throw new NoSuchElementException("there are fewer than two households");
        }
        course.measure(village);
        return course.leastPhase();
    }

    public int leastSides() throws NoSuchElementException {
        if (isTooSmall()) {
            throw new NoSuchElementException("there are fewer than two households");
        }
        divisions.measure(village);
        return divisions.leastCount();
    }

    public int between(int one, int other)
            throws IndexOutOfBoundsException, IllegalArgumentException {
        if (!village.has(one) || !village.has(other)) {
            throw new IndexOutOfBoundsException("there is no such household");
        }
        if (one == other) {
            throw new IllegalArgumentException("both are one household");
        }
        divisions.measure(village);
        return divisions.leastApart(one, other);
    }

    public int betweenAgain(int one, int other)
            throws IndexOutOfBoundsException, IllegalArgumentException {
        if (!village.has(one) || !village.has(other)) {
            throw new IndexOutOfBoundsException("there is no such household");
        }
        if (one == other) {
            throw new IllegalArgumentException("both are one household");
        }
        return flow.mostFlow(village, one, other);
    }

    public int bestMove() throws NoSuchElementException {
        if (village.size == 0) {
            throw new NoSuchElementException("there are no households");
        }
        int best = 0;
        for (int household = 1; household < village.size; household++) {
            if (village.feudAfterMove(household) < village.feudAfterMove(best)) {
                best = household;
            }
        }
        return best;
    }

    public int ifMoved(int household) throws IndexOutOfBoundsException {
        if (!village.has(household)) {
            throw new IndexOutOfBoundsException("there is no such household");
        }
        return village.feudAfterMove(household);
    }

    public int ifBond(int one, int other, int weight)
            throws IndexOutOfBoundsException, IllegalArgumentException {
        if (!village.has(one) || !village.has(other)) {
            throw new IndexOutOfBoundsException("there is no such household");
        }
        if (one == other) {
            throw new IllegalArgumentException("both are one household");
        }
        if (weight < 0 || weight > MOST_WEIGHT) {
            throw new IllegalArgumentException("the weight is out of range");
        }
        return leastWith(one, other, weight);
    }

    public boolean isCritical(int one, int other)
            throws IndexOutOfBoundsException, IllegalStateException {
        if (!village.has(one) || !village.has(other)) {
            throw new IndexOutOfBoundsException("there is no such household");
        }
        if (one == other || village.tie(one, other) == 0) {
            throw new IllegalStateException("there is no bond between them");
        }
        return leastWith(one, other, 0) < leastByPhases(village);
    }

    public int parts() {
        int parts = 0;
        for (int household = 0; household < village.size; household++) {
            if (lowestOf(village.reachOf(household)) == household) {
                parts++;
            }
        }
        return parts;
    }

    public int partOf(int household) throws IndexOutOfBoundsException {
        if (!village.has(household)) {
            throw new IndexOutOfBoundsException("there is no such household");
        }
        return village.reachOf(household);
    }

    public int bondAt(int index) throws NoSuchElementException {
        int bond = village.bondByIndex(index);
        if (bond < 0) {
            throw new NoSuchElementException("there is no such bond");
        }
        return bond;
    }

    public int heaviest() throws NoSuchElementException {
        int bond = village.heaviestBond();
        if (bond < 0) {
            throw new NoSuchElementException("there are no bonds");
        }
        return bond;
    }

    public int ranked(int kind, int place)
            throws IllegalArgumentException, NoSuchElementException {
        if (kind < 0 || kind > 3) {
            throw new IllegalArgumentException("there is no such kind");
        }
        if (!village.has(place)) {
            throw new NoSuchElementException("there is no such place");
        }
        fillKeys(kind);
        return householdAtPlace(place);
    }

    public boolean isTold() {
        if (village.feudByBonds() != village.feudByHalves()) {
            return false;
        }
        return isTooSmall() || isLeastTold();
    }

    public int append(char character) throws IllegalArgumentException, IllegalStateException {
        if (character < FIRST_CODE || character > LAST_CODE) {
            throw new IllegalArgumentException("the code is not from 32 to 126");
        }
        if (text.length() >= LONGEST_TEXT) {
            throw new IllegalStateException("the input is full");
        }
        return text.put(character);
    }

    public int run() throws IllegalArgumentException, UnsupportedOperationException {
        boolean isRead = text.read();
        text.clear();
        if (!isRead) {
            throw new IllegalArgumentException("the text has a fault");
        }
        if (!doesOrders()) {
            throw new UnsupportedOperationException("an order is refused");
        }
        return text.orders();
    }

    public int faultPosition() {
        return text.fault();
    }

    public int reason(int depth, boolean isDetail)
            throws IllegalArgumentException, NoSuchElementException {
        if (depth != 0 && depth != 1) {
            throw new IllegalArgumentException("the depth is not 0 or 1");
        }
        if (!refusal.reaches(depth)) {
            throw new NoSuchElementException("there is no such reason");
        }
        return refusal.numberAt(depth, isDetail);
    }

    public int tell() {
        line.setLength(0);
        for (int one = 0; one < village.size; one++) {
            for (int other = one + 1; other < village.size; other++) {
                if (village.tie(one, other) > 0) {
                    writeBond(one, other);
                }
            }
        }
        return line.length();
    }

    public int tellPhase(int phase) throws IndexOutOfBoundsException {
        if (!hasPhase(phase)) {
            throw new IndexOutOfBoundsException("there is no such phase");
        }
        course.measure(village);
        line.setLength(0);
        for (int place = 0; place < course.groupsIn(phase); place++) {
            if (place > 0) {
                line.append('<');
            }
            writeSet(course.groupAt(phase, place));
        }
        line.append('=');
        line.append(course.cutOf(phase));
        return line.length();
    }

    public int tellSides() {
        line.setLength(0);
        writeSet(village.everyone() & ~village.sideOne);
        line.append('|');
        writeSet(village.sideOne);
        return line.length();
    }

    public char character(int index) throws IndexOutOfBoundsException {
        if (index < 0 || index >= line.length()) {
            throw new IndexOutOfBoundsException("there is no such index");
        }
        return line.charAt(index);
    }

    public int account(int what) throws IllegalArgumentException {
        switch (what) {
            case 0:
                return village.size;
            case 1:
                return village.bondCount();
            case 2:
                return village.weightSum();
            case 3:
                return Integer.bitCount(village.sideOne);
            case 4:
                return village.bondsAcross();
            case 5:
                return village.came;
            case 6:
                return village.went;
            case 7:
                return village.weddings;
            case 8:
                return village.lonelyCount();
            case 9:
                return text.length();
            case 10:
                return history.count();
            default:
                throw new IllegalArgumentException("what is not 0 to 10");
        }
    }

    public double meanWeight() throws ArithmeticException {
        int bonds = village.bondCount();
        if (bonds == 0) {
            throw new ArithmeticException("there are no bonds");
        }
        return (double) village.weightSum() / bonds;
    }

    public float feudShare() throws ArithmeticException {
        int sum = village.weightSum();
        if (sum == 0) {
            throw new ArithmeticException("there are no bonds");
        }
        return (float) village.feudByBonds() / sum;
    }

    public int undo() throws IllegalStateException {
        if (!history.takesBack(village)) {
            throw new IllegalStateException("there is no change that can be undone");
        }
        return history.count();
    }

    public int save() {
        if (saved == null) {
            saved = new Village();
        }
        saved.copyFrom(village);
        return village.size;
    }

    public int restore() throws IllegalStateException {
        if (saved == null) {
            throw new IllegalStateException("nothing was saved");
        }
        village.copyFrom(saved);
        history.forget();
        return village.size;
    }

    /** Tells whether an order is refused, and keeps the first reason that applies. */
    private boolean refuses(int order, int one, int other, int weight) {
        switch (order) {
            case HOUSE:
                return refusesIf(village.size >= MOST_HOUSEHOLDS, IS_FULL, village.size);
            case GO:
                return refusesHousehold(one);
            case BOND:
                return refusesPair(one, other)
                        || refusesIf(weight < 1 || weight > MOST_WEIGHT, IS_OUT_OF_RANGE, weight)
                        || refusesIf(village.tie(one, other) == weight, IS_SO_ALREADY, weight);
            case LOOSE:
                boolean isLoose = village.tie(one, other) == 0;
                return refusesPair(one, other)
                        || refusesIf(isLoose, HAS_NO_BOND, village.bondCount());
            case MARRY:
                return refusesPair(one, other);
            case SIDE:
                return refusesHousehold(one)
                        || refusesIf(other != 0 && other != 1, IS_OUT_OF_RANGE, other)
                        || refusesIf(village.sideOf(one) == other, IS_SO_ALREADY, other);
            default:
                return refusesIf(isTooSmall(), HAS_TOO_FEW, village.size);
        }
    }

    private boolean refusesPair(int one, int other) {
        return refusesHousehold(one)
                || refusesHousehold(other)
                || refusesIf(one == other, IS_ONE, one);
    }

    private boolean refusesHousehold(int household) {
        return refusesIf(!village.has(household), IS_MISSING, household);
    }

    private boolean refusesIf(boolean applies, int reason, int detail) {
        if (applies) {
            refusal.keep(reason, detail);
        }
        return applies;
    }

    /** Does an order that is not refused as a change of its own. */
    private int changed(int order, int one, int other, int weight) {
        history.keep(village);
        return done(order, one, other, weight);
    }

    /** Does an order that is not refused, and gives the answer of its method. */
    private int done(int order, int one, int other, int weight) {
        switch (order) {
            case HOUSE:
                return village.welcome();
            case GO:
                return village.dismiss(one);
            case BOND:
                return village.retie(one, other, weight);
            case LOOSE:
                return village.retie(one, other, 0);
            case MARRY:
                return village.unite(one, other);
            case SIDE:
                village.moveTo(one, other);
                return village.feudByBonds();
            default:
                course.measure(village);
                village.sideOne = course.leastGroup();
                return village.feudByBonds();
        }
    }

    /** Does all orders of the text as one change, or none if one is refused. */
    private boolean doesOrders() {
        ahead.copyFrom(village);
        for (int index = 0; index < text.orders(); index++) {
            int order = text.kindOf(index);
            int one = text.numberOf(index, 0);
            int other = text.numberOf(index, 1);
            int weight = text.numberOf(index, 2);
            if (refuses(order, one, other, weight)) {
                refusal.putBehind(HAS_REFUSED_ORDER, index);
                village.copyFrom(ahead);
                return false;
            }
            done(order, one, other, weight);
        }
        history.keep(ahead);
        return true;
    }

    private boolean isTooSmall() {
        return village.size < 2;
    }

    private boolean hasPhase(int phase) {
        return phase >= 0 && phase < village.phaseCount();
    }

    private int leastByPhases(Village place) {
        course.measure(place);
        return course.cutOf(course.leastPhase());
    }

    /** Gives the least feud if a bond had a weight; the village itself stays as it is. */
    private int leastWith(int one, int other, int weight) {
        trial.copyFrom(village);
        trial.retie(one, other, weight);
        return leastByPhases(trial);
    }

    private boolean isLeastTold() {
        int least = leastByPhases(village);
        divisions.measure(village);
        if (least != divisions.leastFeud()) {
            return false;
        }
        for (int one = 0; one < village.size; one++) {
            for (int other = one + 1; other < village.size; other++) {
                int apart = divisions.leastApart(one, other);
                if (apart != flow.mostFlow(village, one, other) || least > apart) {
                    return false;
                }
            }
        }
        return true;
    }

    /** Gives each household a key, the greatest for the first one of the order. */
    private void fillKeys(int kind) {
        if (kind == 3 && !isTooSmall()) {
            divisions.measure(village);
        }
        for (int household = 0; household < village.size && household < keys.length; household++) {
            keys[household] = keyOf(kind, household);
        }
    }

    private int keyOf(int kind, int household) {
        switch (kind) {
            case 0:
                return village.tieToSet(household, village.everyone());
            case 1:
                return village.bondsOf(household);
            case 2:
                return village.tieToSet(household, village.otherSide(household));
            default:
                return household == 0 ? -ABOVE_ALL_FEUDS : -divisions.leastApart(0, household);
        }
    }

    private int householdAtPlace(int place) {
        for (int household = 0; household < village.size; household++) {
            if (placeOf(household) == place) {
                return household;
            }
        }
        return -1;
    }

    private int placeOf(int household) {
        int place = 0;
        for (int rival = 0; rival < village.size && rival < keys.length; rival++) {
            boolean isAhead = keys[rival] > keys[household]
                    || keys[rival] == keys[household] && rival < household;
            if (isAhead) {
                place++;
            }
        }
        return place;
    }

    private void writeBond(int one, int other) {
        if (line.length() > 0) {
            line.append(' ');
        }
        line.append(one);
        line.append(other);
        line.append('=');
        line.append(village.tie(one, other));
    }

    private void writeSet(int set) {
        for (int household = 0; household < MOST_HOUSEHOLDS; household++) {
            if (isIn(set, household)) {
                line.append(household);
            }
        }
    }

    private static boolean isIn(int set, int household) {
        return (set >> household & 1) == 1;
    }

    private static int lowestOf(int set) {
        for (int household = 0; household < MOST_HOUSEHOLDS; household++) {
            if (isIn(set, household)) {
                return household;
            }
        }
        return -1;
    }

    /** All that goes back when a change is undone: households, bonds, sides, who came and went. */
    private static final class Village {
        private final int[] ties = new int[MOST_HOUSEHOLDS * MOST_HOUSEHOLDS];
        private int size = 0;
        private int sideOne = 0;
        private int came = 0;
        private int went = 0;
        private int weddings = 0;

        void copyFrom(Village other) {
            System.arraycopy(other.ties, 0, ties, 0, ties.length);
            size = other.size;
            sideOne = other.sideOne;
            came = other.came;
            went = other.went;
            weddings = other.weddings;
        }

        boolean has(int household) {
            return household >= 0 && household < size;
        }

        boolean hasAll(int set) {
            return set >= 0 && set <= everyone();
        }

        int everyone() {
            return (1 << size) - 1;
        }

        int phaseCount() {
            return size < 2 ? 0 : size - 1;
        }

        int tie(int one, int other) {
            return has(one) && has(other) ? ties[one * MOST_HOUSEHOLDS + other] : 0;
        }

        int sideOf(int household) {
            return isIn(sideOne, household) ? 1 : 0;
        }

        int sameSide(int household) {
            return sideOf(household) == 1 ? sideOne : everyone() & ~sideOne;
        }

        int otherSide(int household) {
            return everyone() & ~sameSide(household);
        }

        int welcome() {
            if (size < MOST_HOUSEHOLDS) {
                size++;
                came++;
            }
            return size - 1;
        }

        /** Lets a household go; later ones move up one number. */
        int dismiss(int gone) {
            if (!has(gone)) {
                return size;
            }
            for (int one = 0; one < size - 1; one++) {
                for (int other = 0; other < size - 1; other++) {
                    int oneThen = one < gone ? one : one + 1;
                    int otherThen = other < gone ? other : other + 1;
                    ties[one * MOST_HOUSEHOLDS + other] = tie(oneThen, otherThen);
                }
            }
            for (int household = 0; household < size; household++) {
                setTie(household, size - 1, 0);
            }
            int lower = (1 << gone) - 1;
            sideOne = (sideOne & lower) | (sideOne >> 1 & ~lower);
            size--;
            went++;
            return size;
        }

        /** Gives two households another tie, and answers with the one before. */
        int retie(int one, int other, int weight) {
            int tieThen = tie(one, other);
            setTie(one, other, weight);
            return tieThen;
        }

        private void setTie(int one, int other, int weight) {
            if (has(one) && has(other)) {
                ties[one * MOST_HOUSEHOLDS + other] = weight;
                ties[other * MOST_HOUSEHOLDS + one] = weight;
            }
        }

        /** Lets one household take the bonds of another one, which goes. */
        int unite(int one, int other) {
            for (int third = 0; third < size; third++) {
                if (third != one && third != other) {
                    setTie(one, third, tie(one, third) + tie(other, third));
                }
            }
            dismiss(other);
            weddings++;
            return other < one ? one - 1 : one;
        }

        void moveTo(int household, int side) {
            if (has(household)) {
                int others = sideOne & ~(1 << household);
                sideOne = side == 1 ? others | (1 << household) : others;
            }
        }

        int tieToSet(int household, int set) {
            int sum = 0;
            for (int other = 0; other < size; other++) {
                if (isIn(set, other)) {
                    sum += tie(household, other);
                }
            }
            return sum;
        }

        int tieOfSets(int set, int other) {
            int sum = 0;
            for (int household = 0; household < size; household++) {
                if (isIn(set, household)) {
                    sum += tieToSet(household, other);
                }
            }
            return sum;
        }

        int feudByBonds() {
            int feud = 0;
            for (int one = 0; one < size; one++) {
                for (int other = one + 1; other < size; other++) {
                    if (sideOf(one) != sideOf(other)) {
                        feud += tie(one, other);
                    }
                }
            }
            return feud;
        }

        int feudByHalves() {
            int twice = 0;
            for (int household = 0; household < size; household++) {
                twice += tieToSet(household, otherSide(household));
            }
            return twice / 2;
        }

        int feudAfterMove(int household) {
            return feudByBonds()
                    + tieToSet(household, sameSide(household))
                    - tieToSet(household, otherSide(household));
        }

        int bondsOf(int household) {
            int bonds = 0;
            for (int other = 0; other < size; other++) {
                if (tie(household, other) > 0) {
                    bonds++;
                }
            }
            return bonds;
        }

        int closestTo(int household) {
            int closest = -1;
            int most = 0;
            for (int other = 0; other < size; other++) {
                if (tie(household, other) > most) {
                    most = tie(household, other);
                    closest = other;
                }
            }
            return closest;
        }

        int bondCount() {
            int twice = 0;
            for (int household = 0; household < size; household++) {
                twice += bondsOf(household);
            }
            return twice / 2;
        }

        int weightSum() {
            int twice = 0;
            for (int household = 0; household < size; household++) {
                twice += tieToSet(household, everyone());
            }
            return twice / 2;
        }

        int bondsAcross() {
            int bonds = 0;
            for (int one = 0; one < size; one++) {
                for (int other = one + 1; other < size; other++) {
                    if (sideOf(one) != sideOf(other) && tie(one, other) > 0) {
                        bonds++;
                    }
                }
            }
            return bonds;
        }

        int lonelyCount() {
            int lonely = 0;
            for (int household = 0; household < size; household++) {
                if (bondsOf(household) == 0) {
                    lonely++;
                }
            }
            return lonely;
        }

        /** Gives ten times the lower household of a bond and the other one, or -1. */
        int bondByIndex(int index) {
            int bonds = 0;
            for (int one = 0; one < size; one++) {
                for (int other = one + 1; other < size; other++) {
                    if (tie(one, other) > 0) {
                        if (bonds == index) {
                            return 10 * one + other;
                        }
                        bonds++;
                    }
                }
            }
            return -1;
        }

        int heaviestBond() {
            int heaviest = -1;
            int most = 0;
            for (int one = 0; one < size; one++) {
                for (int other = one + 1; other < size; other++) {
                    if (tie(one, other) > most) {
                        most = tie(one, other);
                        heaviest = 10 * one + other;
                    }
                }
            }
            return heaviest;
        }

        /** Each round comes one bond further, so that as many rounds as households are enough. */
        int reachOf(int household) {
            int reach = 1 << household;
            for (int round = 0; round < size; round++) {
                for (int other = 0; other < size; other++) {
                    if (tieToSet(other, reach) > 0) {
                        reach |= 1 << other;
                    }
                }
            }
            return reach;
        }
    }

    /**
     * The phases of a village: which group joined at which place, and how much it was tied then.
     *
     * <p>A group is known by its lowest household, so that the first of several that are tied the
     * most is the one with the lowest household.
     */
    private static final class Phases {
        private final int[] groups = new int[MOST_PHASES * MOST_HOUSEHOLDS];
        private final int[] pulls = new int[MOST_PHASES * MOST_HOUSEHOLDS];
        private final int[] ties = new int[MOST_HOUSEHOLDS * MOST_HOUSEHOLDS];
        private final int[] groupFrom = new int[MOST_HOUSEHOLDS];
        private final int[] pullOn = new int[MOST_HOUSEHOLDS];
        private int size = 0;

        void measure(Village village) {
            size = village.size;
            for (int one = 0; one < MOST_HOUSEHOLDS; one++) {
                groupFrom[one] = one < size ? 1 << one : 0;
                for (int other = 0; other < MOST_HOUSEHOLDS; other++) {
                    ties[one * MOST_HOUSEHOLDS + other] = village.tie(one, other);
                }
            }
            for (int phase = 0; phase < size - 1; phase++) {
                joinAll(phase);
                mergeLast(phase);
            }
        }

        private void joinAll(int phase) {
            int waiting = 0;
            for (int lowest = 0; lowest < MOST_HOUSEHOLDS; lowest++) {
                pullOn[lowest] = 0;
                if (groupFrom[lowest] != 0) {
                    waiting |= 1 << lowest;
                }
            }
            for (int place = 0; place < groupsIn(phase); place++) {
                int next = strongestOf(waiting);
                waiting &= ~(1 << next);
                put(phase, place, next);
                for (int lowest = 0; lowest < MOST_HOUSEHOLDS; lowest++) {
                    pullOn[lowest] += ties[lowest * MOST_HOUSEHOLDS + next];
                }
            }
        }

        private int strongestOf(int waiting) {
            int strongest = 0;
            int most = -1;
            for (int lowest = 0; lowest < MOST_HOUSEHOLDS; lowest++) {
                if (isIn(waiting, lowest) && pullOn[lowest] > most) {
                    most = pullOn[lowest];
                    strongest = lowest;
                }
            }
            return strongest;
        }

        private void put(int phase, int place, int lowest) {
            if (hasPlace(phase, place)) {
                groups[phase * MOST_HOUSEHOLDS + place] = groupFrom[lowest];
                pulls[phase * MOST_HOUSEHOLDS + place] = pullOn[lowest];
            }
        }

        private void mergeLast(int phase) {
            int last = lowestOf(groupAt(phase, groupsIn(phase) - 1));
            int lastButOne = lowestOf(groupAt(phase, groupsIn(phase) - 2));
            int merged = Math.min(last, lastButOne);
            int gone = Math.max(last, lastButOne);
            if (merged < 0) {
                return;
            }
            groupFrom[merged] |= groupFrom[gone];
            groupFrom[gone] = 0;
            for (int lowest = 0; lowest < MOST_HOUSEHOLDS; lowest++) {
                int tie = ties[merged * MOST_HOUSEHOLDS + lowest]
                        + ties[gone * MOST_HOUSEHOLDS + lowest];
                ties[merged * MOST_HOUSEHOLDS + lowest] = tie;
                ties[lowest * MOST_HOUSEHOLDS + merged] = tie;
            }
        }

        int groupsIn(int phase) {
            return size - phase;
        }

        boolean hasPlace(int phase, int place) {
            return phase >= 0 && phase < size - 1 && place >= 0 && place < size - phase;
        }

        int groupAt(int phase, int place) {
            return hasPlace(phase, place) ? groups[phase * MOST_HOUSEHOLDS + place] : 0;
        }

        int pullAt(int phase, int place) {
            return hasPlace(phase, place) ? pulls[phase * MOST_HOUSEHOLDS + place] : 0;
        }

        /** All others have joined as the last group joins, so that its pull is the cut. */
        int cutOf(int phase) {
            return pullAt(phase, size - phase - 1);
        }

        int leastPhase() {
            int least = 0;
            for (int phase = 1; phase < size - 1; phase++) {
                if (cutOf(phase) < cutOf(least)) {
                    least = phase;
                }
            }
            return least;
        }

        int leastGroup() {
            int phase = leastPhase();
            return groupAt(phase, size - phase - 1);
        }
    }

    /** The feuds of all divisions; the last household is on the side 0, so that each is once. */
    private static final class Divisions {
        private final int[] feuds = new int[MOST_DIVISIONS];
        private int count = 0;

        void measure(Village village) {
            count = village.size < 2 ? 0 : 1 << (village.size - 1);
            for (int side = 1; side < count && side < feuds.length; side++) {
                int moved = lowestOf(side);
                int others = side & ~(1 << moved);
                // ties with its new side are no feud any more, and all its other ones become a feud
                feuds[side] = feuds[others]
                        + village.tieToSet(moved, village.everyone())
                        - 2 * village.tieToSet(moved, others);
            }
        }

        int leastFeud() {
            int least = ABOVE_ALL_FEUDS;
            for (int side = 1; side < count && side < feuds.length; side++) {
                least = Math.min(least, feuds[side]);
            }
            return least;
        }

        int leastCount() {
            int least = leastFeud();
            int times = 0;
            for (int side = 1; side < count && side < feuds.length; side++) {
                if (feuds[side] == least) {
                    times++;
                }
            }
            return times;
        }

        int leastApart(int one, int other) {
            int least = ABOVE_ALL_FEUDS;
            for (int side = 1; side < count && side < feuds.length; side++) {
                if (isIn(side, one) != isIn(side, other)) {
                    least = Math.min(least, feuds[side]);
                }
            }
            return least;
        }
    }

    /** The most that can flow between two households, by shortest paths that still have room. */
    private static final class Flow {
        // each path fills a way, and none of the 72 ways is filled more than five times
        private static final int MOST_PATHS = 1000;

        private final int[] room = new int[MOST_HOUSEHOLDS * MOST_HOUSEHOLDS];
        private final int[] cameFrom = new int[MOST_HOUSEHOLDS];
        private final int[] queue = new int[MOST_HOUSEHOLDS];

        int mostFlow(Village village, int source, int goal) {
            for (int one = 0; one < MOST_HOUSEHOLDS; one++) {
                for (int other = 0; other < MOST_HOUSEHOLDS; other++) {
                    room[one * MOST_HOUSEHOLDS + other] = village.tie(one, other);
                }
            }
            int flow = 0;
            for (int path = 0; path < MOST_PATHS && findsPath(source, goal); path++) {
                int more = narrowest(source, goal);
                push(source, goal, more);
                flow += more;
            }
            return flow;
        }

        private boolean findsPath(int source, int goal) {
            int reached = 1 << source;
            int waiting = 1;
            queue[0] = source;
            for (int turn = 0; turn < waiting && turn < queue.length; turn++) {
                int from = queue[turn];
                for (int to = 0; to < MOST_HOUSEHOLDS; to++) {
                    if (!isIn(reached, to) && roomOn(from, to) > 0 && waiting < queue.length) {
                        reached |= 1 << to;
                        cameFrom[to] = from;
                        queue[waiting] = to;
                        waiting++;
                    }
                }
            }
            return isIn(reached, goal);
        }

        private int narrowest(int source, int goal) {
            int least = ABOVE_ALL_FEUDS;
            int to = goal;
            for (int step = 0; step < MOST_HOUSEHOLDS && to != source; step++) {
                int from = stepBack(to);
                least = Math.min(least, roomOn(from, to));
                to = from;
            }
            return least;
        }

        private void push(int source, int goal, int more) {
            int to = goal;
            for (int step = 0; step < MOST_HOUSEHOLDS && to != source; step++) {
                int from = stepBack(to);
                widen(from, to, -more);
                widen(to, from, more);
                to = from;
            }
        }

        private int stepBack(int household) {
            return isThere(household) ? cameFrom[household] : -1;
        }

        private int roomOn(int from, int to) {
            return isThere(from) && isThere(to) ? room[from * MOST_HOUSEHOLDS + to] : 0;
        }

        private void widen(int from, int to, int more) {
            if (isThere(from) && isThere(to)) {
                room[from * MOST_HOUSEHOLDS + to] += more;
            }
        }

        private boolean isThere(int household) {
            return household >= 0 && household < MOST_HOUSEHOLDS;
        }
    }

    /** The changes that can be undone, as the villages ahead of them, the latest ones in a ring. */
    private static final class History {
        private final Village[] ring = new Village[MOST_CHANGES];
        private int next = 0;
        private int kept = 0;

        void keep(Village village) {
            if (ring[next] == null) {
                ring[next] = new Village();
            }
            ring[next].copyFrom(village);
            next = next == MOST_CHANGES - 1 ? 0 : next + 1;
            kept = Math.min(kept + 1, MOST_CHANGES);
        }

        boolean takesBack(Village village) {
            int latest = next == 0 ? MOST_CHANGES - 1 : next - 1;
            if (kept == 0 || ring[latest] == null) {
                return false;
            }
            village.copyFrom(ring[latest]);
            next = latest;
            kept--;
            return true;
        }

        void forget() {
            kept = 0;
        }

        int count() {
            return kept;
        }
    }

    /** The reason for which something was refused, and its cause; 0 where there is none. */
    private static final class Refusal {
        private int number = 0;
        private int detail = 0;
        private int causeNumber = 0;
        private int causeDetail = 0;

        void keep(int reasonNumber, int reasonDetail) {
            number = reasonNumber;
            detail = reasonDetail;
            causeNumber = 0;
            causeDetail = 0;
        }

        /** Makes the reason that is kept the cause of another one. */
        void putBehind(int reasonNumber, int reasonDetail) {
            causeNumber = number;
            causeDetail = detail;
            number = reasonNumber;
            detail = reasonDetail;
        }

        boolean reaches(int depth) {
            return depth == 0 ? number != 0 : causeNumber != 0;
        }

        int numberAt(int depth, boolean isDetail) {
            if (depth == 0) {
                return isDetail ? detail : number;
            }
            return isDetail ? causeDetail : causeNumber;
        }
    }

    /** The input, the orders that were read from it, and where it had a fault. */
    private static final class Text {
        private static final int NUMBERS = 3;

        private final StringBuilder signs = new StringBuilder();
        private final int[] kinds = new int[MOST_ORDERS];
        private final int[] numbers = new int[MOST_ORDERS * NUMBERS];
        private int orderCount = 0;
        private int numberCount = 0;
        private int position = 0;
        private int faultAt = -1;

        int length() {
            return signs.length();
        }

        int put(char sign) {
            signs.append(sign);
            return signs.length();
        }

        void clear() {
            signs.setLength(0);
        }

        int fault() {
            return faultAt;
        }

        int orders() {
            return orderCount;
        }

        int kindOf(int index) {
            return index >= 0 && index < kinds.length ? kinds[index] : HOUSE;
        }

        int numberOf(int index, int which) {
            int at = index * NUMBERS + which;
            return at >= 0 && at < numbers.length ? numbers[at] : 0;
        }

        /** Reads the input, and tells whether it has no fault. */
        boolean read() {
            orderCount = 0;
            position = 0;
            boolean isWhole = readsOrder();
            for (int more = 0; more < LONGEST_TEXT && isWhole && takesSign(';'); more++) {
                isWhole = readsOrder();
            }
            isWhole = isWhole && position == signs.length();
            faultAt = isWhole ? -1 : position;
            return isWhole;
        }

        private boolean readsOrder() {
            int kind = kindByLetter();
            if (kind < 0 || orderCount >= kinds.length) {
                return false;
            }
            kinds[orderCount] = kind;
            numberCount = 0;
            String form = formOf(kind);
            for (int at = 0; at < form.length(); at++) {
                if (!takes(form.charAt(at))) {
                    return false;
                }
            }
            orderCount++;
            return true;
        }

        /** Tells the kind of the order that begins here; each begins with a letter of its own. */
        private int kindByLetter() {
            for (int kind = HOUSE; kind <= PART; kind++) {
                String form = formOf(kind);
                if (!form.isEmpty() && isNext(form.charAt(0))) {
                    return kind;
                }
            }
            return -1;
        }

        /** The form of an order, with # for a digit and % for a number. */
        private static String formOf(int kind) {
            switch (kind) {
                case HOUSE:
                    return "house";
                case GO:
                    return "go #";
                case BOND:
                    return "bond # # %";
                case LOOSE:
                    return "loose # #";
                case MARRY:
                    return "marry # #";
                case SIDE:
                    return "side # #";
                default:
                    return "part";
            }
        }

        private boolean takes(char mark) {
            if (mark == '#') {
                return takesDigits(1);
            }
            if (mark == '%') {
                return takesDigits(2);
            }
            return takesSign(mark);
        }

        private boolean takesDigits(int most) {
            int start = position;
            int value = 0;
            for (int digits = 0; digits < most && nextDigit() >= 0; digits++) {
                value = 10 * value + nextDigit();
                position++;
            }
            int at = orderCount * NUMBERS + numberCount;
            if (position == start || at < 0 || at >= numbers.length) {
                return false;
            }
            numbers[at] = value;
            numberCount++;
            return true;
        }

        private int nextDigit() {
            if (position >= signs.length()) {
                return -1;
            }
            char sign = signs.charAt(position);
            return sign >= '0' && sign <= '9' ? sign - '0' : -1;
        }

        private boolean takesSign(char sign) {
            boolean isThere = isNext(sign);
            if (isThere) {
                position++;
            }
            return isThere;
        }

        private boolean isNext(char sign) {
            return position < signs.length() && signs.charAt(position) == sign;
        }
    }
}
