import java.util.ArrayDeque;
import java.util.ArrayList;
import java.util.Collections;
import java.util.Comparator;
import java.util.Deque;
import java.util.HashSet;
import java.util.List;
import java.util.NoSuchElementException;
import java.util.Set;
import java.util.TreeSet;
import java.util.function.ToIntFunction;
import java.util.regex.Matcher;
import java.util.regex.Pattern;

/**
 * The document told a second time, with the Java library and by the words of the document alone:
 * what ModelTest asks the program has to answer as this does.
 */
final class Model {
    private static final String ORDER = "(?:house|go \\d|bond \\d \\d \\d\\d?|loose \\d \\d"
            + "|marry \\d \\d|side \\d \\d|part)";
    private static final Pattern TEXT = Pattern.compile(ORDER + "(?:;" + ORDER + ")*");

    /** A household knows its ties by the others themselves, so that no numbers have to be moved. */
    private static final class Person {
        int side;
    }

    private static final class Tie {
        final Set<Person> ends = new HashSet<>();
        int weight;
    }

    private static final class State {
        final List<Person> people = new ArrayList<>();
        final List<Tie> ties = new ArrayList<>();
        int came;
        int went;
        int weddings;

        State copy() {
            State copy = new State();
            for (Person person : people) {
                Person twin = new Person();
                twin.side = person.side;
                copy.people.add(twin);
            }
            for (Tie tie : ties) {
                Tie twin = new Tie();
                twin.weight = tie.weight;
                for (Person end : tie.ends) {
                    twin.ends.add(copy.people.get(people.indexOf(end)));
                }
                copy.ties.add(twin);
            }
            copy.came = came;
            copy.went = went;
            copy.weddings = weddings;
            return copy;
        }
    }

    private record Phase(List<TreeSet<Integer>> groups, List<Integer> pulls) {
        int cut() {
            return pulls.get(pulls.size() - 1);
        }

        TreeSet<Integer> fromEnd(int steps) {
            return groups.get(groups.size() - 1 - steps);
        }
    }

    private State state = new State();
    private State saved;
    private final Deque<State> past = new ArrayDeque<>();
    private List<int[]> reasons = List.of();
    private String input = "";
    private String line = "";
    private int fault = -1;

    private int size() {
        return state.people.size();
    }

    private Tie tieOf(int one, int other) {
        Set<Person> ends = Set.of(state.people.get(one), state.people.get(other));
        for (Tie tie : state.ties) {
            if (tie.ends.equals(ends)) {
                return tie;
            }
        }
        return null;
    }

    private int tie(int one, int other) {
        Tie tie = one == other ? null : tieOf(one, other);
        return tie == null ? 0 : tie.weight;
    }

    private int between(Iterable<Integer> ones, Iterable<Integer> others) {
        int sum = 0;
        for (int one : ones) {
            for (int other : others) {
                sum += tie(one, other);
            }
        }
        return sum;
    }

    private List<Integer> everyone() {
        List<Integer> all = new ArrayList<>();
        for (int k = 0; k < size(); k++) {
            all.add(k);
        }
        return all;
    }

    private TreeSet<Integer> onSide(int side) {
        TreeSet<Integer> them = new TreeSet<>();
        for (int k : everyone()) {
            if (state.people.get(k).side == side) {
                them.add(k);
            }
        }
        return them;
    }

    private TreeSet<Integer> membersOf(int set) {
        TreeSet<Integer> members = new TreeSet<>();
        for (int k = 0; k < 31; k++) {
            if ((set & (1 << k)) != 0) {
                members.add(k);
            }
        }
        return members;
    }

    private int setOf(Iterable<Integer> members) {
        int set = 0;
        for (int member : members) {
            set += 1 << member;
        }
        return set;
    }

    private String told(Iterable<Integer> members) {
        StringBuilder told = new StringBuilder();
        for (int member : members) {
            told.append(member);
        }
        return told.toString();
    }

    private List<int[]> sortedBonds() {
        List<int[]> bonds = new ArrayList<>();
        for (int one : everyone()) {
            for (int other : everyone()) {
                if (one < other && tie(one, other) > 0) {
                    bonds.add(new int[] {one, other, tie(one, other)});
                }
            }
        }
        return bonds;
    }

    private List<Phase> allPhases() {
        List<Phase> all = new ArrayList<>();
        List<TreeSet<Integer>> groups = new ArrayList<>();
        for (int k : everyone()) {
            groups.add(new TreeSet<>(List.of(k)));
        }
        while (groups.size() > 1) {
            groups.sort(Comparator.comparing(TreeSet::first));
            List<TreeSet<Integer>> left = new ArrayList<>(groups);
            List<TreeSet<Integer>> joined = new ArrayList<>();
            List<Integer> pulls = new ArrayList<>();
            TreeSet<Integer> crowd = new TreeSet<>();
            while (!left.isEmpty()) {
                TreeSet<Integer> next = Collections.max(left,
                        Comparator.comparingInt((TreeSet<Integer> group) -> between(group, crowd))
                                .thenComparingInt(group -> -group.first()));
                pulls.add(between(next, crowd));
                joined.add(next);
                crowd.addAll(next);
                left.remove(next);
            }
            all.add(new Phase(joined, pulls));
            TreeSet<Integer> merged = new TreeSet<>(joined.get(joined.size() - 1));
            merged.addAll(joined.get(joined.size() - 2));
            groups = new ArrayList<>(joined.subList(0, joined.size() - 2));
            groups.add(merged);
        }
        return all;
    }

    private List<Integer> divisionFeuds(int apartOne, int apartOther) {
        List<Integer> feuds = new ArrayList<>();
        for (int set = 1; set < (1 << size()) - 1; set++) {
            TreeSet<Integer> ones = membersOf(set);
            boolean isApart = apartOne < 0 || ones.contains(apartOne) != ones.contains(apartOther);
            if (isApart) {
                TreeSet<Integer> others = new TreeSet<>(everyone());
                others.removeAll(ones);
                feuds.add(between(ones, others));
            }
        }
        return feuds;
    }

    private void refuse(boolean applies, int reason, int detail) {
        if (applies) {
            reasons = List.of(new int[] {reason, detail});
            throw new UnsupportedOperationException();
        }
    }

    private boolean isNone(int household) {
        return household < 0 || household >= size();
    }

    private void refusePair(int one, int other) {
        refuse(isNone(one), 2, one);
        refuse(isNone(other), 2, other);
        refuse(one == other, 3, one);
    }

    private void remember(State before) {
        past.push(before);
        if (past.size() > 8) {
            past.removeLast();
        }
    }

    private void changes() {
        remember(state.copy());
    }

    private void checkPair(int one, int other) {
        if (isNone(one) || isNone(other)) {
            throw new IndexOutOfBoundsException();
        }
    }

    private void remove(int household) {
        Person gone = state.people.remove(household);
        state.ties.removeIf(tie -> tie.ends.contains(gone));
        state.went++;
    }

    private void setTie(int one, int other, int weight) {
        Tie tie = tieOf(one, other);
        state.ties.remove(tie);
        if (weight > 0) {
            Tie then = new Tie();
            then.ends.add(state.people.get(one));
            then.ends.add(state.people.get(other));
            then.weight = weight;
            state.ties.add(then);
        }
    }

    public int household() {
        refuse(size() == 9, 1, 9);
        changes();
        state.people.add(new Person());
        state.came++;
        return size() - 1;
    }

    public int leave(int household) {
        refuse(isNone(household), 2, household);
        changes();
        remove(household);
        return size();
    }

    public int bond(int one, int other, int weight) {
        refusePair(one, other);
        refuse(weight < 1 || weight > 99, 4, weight);
        refuse(tie(one, other) == weight, 5, weight);
        changes();
        int before = tie(one, other);
        setTie(one, other, weight);
        return before;
    }

    public int loosen(int one, int other) {
        refusePair(one, other);
        refuse(tie(one, other) == 0, 6, state.ties.size());
        changes();
        int before = tie(one, other);
        setTie(one, other, 0);
        return before;
    }

    public int marry(int one, int other) {
        refusePair(one, other);
        changes();
        Person stays = state.people.get(one);
        for (int third : everyone()) {
            if (third != one && third != other && tie(other, third) > 0) {
                setTie(one, third, tie(one, third) + tie(other, third));
            }
        }
        remove(other);
        state.weddings++;
        return state.people.indexOf(stays);
    }

    public int stand(int household, int side) {
        refuse(isNone(household), 2, household);
        refuse(side < 0 || side > 1, 4, side);
        refuse(state.people.get(household).side == side, 5, side);
        changes();
        state.people.get(household).side = side;
        return feud();
    }

    public int part() {
        refuse(size() < 2, 7, size());
        changes();
        TreeSet<Integer> last = allPhases().get(met()).fromEnd(0);
        for (int k : everyone()) {
            state.people.get(k).side = last.contains(k) ? 1 : 0;
        }
        return feud();
    }

    public int weight(int one, int other) {
        checkPair(one, other);
        return tie(one, other);
    }

    public int householdOf(int household, int what) {
        checkPair(household, household);
        int side = state.people.get(household).side;
        List<Integer> self = List.of(household);
        if (what == 0) {
            return side;
        }
        if (what == 1) {
            return (int) everyone().stream().filter(k -> tie(household, k) > 0).count();
        }
        if (what == 2) {
            return between(self, everyone());
        }
        if (what == 3) {
            return between(self, onSide(side));
        }
        if (what == 4) {
            return between(self, onSide(1 - side));
        }
        if (what == 5) {
            int most = everyone().stream().mapToInt(k -> tie(household, k)).max().getAsInt();
            return most == 0 ? -1
                    : everyone().stream().filter(k -> tie(household, k) == most).findFirst().get();
        }
        throw new IllegalArgumentException();
    }

    public int tied(int set, int other) {
        boolean isFar = set < 0 || other < 0 || set >= 1 << size() || other >= 1 << size();
        if (isFar || !Collections.disjoint(membersOf(set), membersOf(other))) {
            throw new IllegalArgumentException();
        }
        return between(membersOf(set), membersOf(other));
    }

    public int feud() {
        return between(onSide(0), onSide(1));
    }

    public int feudAgain() {
        return feud();
    }

    public int phases() {
        return allPhases().size();
    }

    private Phase phase(int phase) {
        if (phase < 0 || phase >= phases()) {
            throw new IndexOutOfBoundsException();
        }
        return allPhases().get(phase);
    }

    public int phaseOf(int phase, int what) {
        Phase of = phase(phase);
        switch (what) {
            case 0:
                return of.cut();
            case 1:
                return of.groups().size();
            case 2:
                return of.fromEnd(0).first();
            case 3:
                return of.fromEnd(1).first();
            case 4:
                return setOf(of.fromEnd(0));
            default:
                throw new IllegalArgumentException();
        }
    }

    private int place(Phase phase, int place) {
        if (place < 0 || place >= phase.groups().size()) {
            throw new NoSuchElementException();
        }
        return place;
    }

    public int joined(int phase, int place) {
        Phase of = phase(phase);
        return of.groups().get(place(of, place)).first();
    }

    public int tieAt(int phase, int place) {
        Phase of = phase(phase);
        return of.pulls().get(place(of, place));
    }

    private void checkTwo() {
        if (size() < 2) {
            throw new NoSuchElementException();
        }
    }

    public int least() {
        checkTwo();
        return Collections.min(divisionFeuds(-1, -1));
    }

    public int leastAgain() {
        return least();
    }

    public int met() {
        checkTwo();
        List<Integer> cuts = allPhases().stream().map(Phase::cut).toList();
        return cuts.indexOf(Collections.min(cuts));
    }

    public int leastSides() {
        checkTwo();
        return Collections.frequency(divisionFeuds(-1, -1), least()) / 2;
    }

    public int between(int one, int other) {
        checkPair(one, other);
        if (one == other) {
            throw new IllegalArgumentException();
        }
        return Collections.min(divisionFeuds(one, other));
    }

    public int betweenAgain(int one, int other) {
        return between(one, other);
    }

    public int bestMove() {
        if (size() == 0) {
            throw new NoSuchElementException();
        }
        return Collections.min(everyone(), Comparator.comparing(this::ifMoved));
    }

    public int ifMoved(int household) {
        checkPair(household, household);
        Person person = state.people.get(household);
        person.side = 1 - person.side;
        int feud = feud();
        person.side = 1 - person.side;
        return feud;
    }

    private int leastWith(int one, int other, int weight) {
        State before = state.copy();
        setTie(one, other, weight);
        int least = least();
        state = before;
        return least;
    }

    public int ifBond(int one, int other, int weight) {
        checkPair(one, other);
        if (one == other || weight < 0 || weight > 99) {
            throw new IllegalArgumentException();
        }
        return leastWith(one, other, weight);
    }

    public boolean isCritical(int one, int other) {
        checkPair(one, other);
        if (one == other || tie(one, other) == 0) {
            throw new IllegalStateException();
        }
        return leastWith(one, other, 0) < least();
    }

    private TreeSet<Integer> reach(int household, TreeSet<Integer> met) {
        if (met.add(household)) {
            for (int other : everyone()) {
                if (tie(household, other) > 0) {
                    reach(other, met);
                }
            }
        }
        return met;
    }

    public int parts() {
        Set<Set<Integer>> parts = new HashSet<>();
        for (int k : everyone()) {
            parts.add(reach(k, new TreeSet<>()));
        }
        return parts.size();
    }

    public int partOf(int household) {
        checkPair(household, household);
        return setOf(reach(household, new TreeSet<>()));
    }

    public int bondAt(int index) {
        if (index < 0 || index >= sortedBonds().size()) {
            throw new NoSuchElementException();
        }
        int[] bond = sortedBonds().get(index);
        return 10 * bond[0] + bond[1];
    }

    public int heaviest() {
        if (state.ties.isEmpty()) {
            throw new NoSuchElementException();
        }
        int[] bond = Collections.min(sortedBonds(), Comparator.comparing(each -> -each[2]));
        return 10 * bond[0] + bond[1];
    }

    public int ranked(int kind, int place) {
        if (kind < 0 || kind > 3) {
            throw new IllegalArgumentException();
        }
        if (isNone(place)) {
            throw new NoSuchElementException();
        }
        List<ToIntFunction<Integer>> keys = List.of(
                k -> -householdOf(k, 2), k -> -householdOf(k, 1), k -> -householdOf(k, 4),
                k -> k == 0 ? Integer.MAX_VALUE : between(0, k));
        List<Integer> order = new ArrayList<>(everyone());
        order.sort(Comparator.comparingInt(keys.get(kind)));
        return order.get(place);
    }

    public boolean isTold() {
        return true;
    }

    public int append(char character) {
        if (character < ' ' || character > '~') {
            throw new IllegalArgumentException();
        }
        if (input.length() == 60) {
            throw new IllegalStateException();
        }
        input += character;
        return input.length();
    }

    private int faultOf(String text) {
        for (int length = 1; length <= text.length(); length++) {
            Matcher matcher = TEXT.matcher(text.substring(0, length));
            if (!matcher.matches() && !matcher.hitEnd()) {
                return length - 1;
            }
        }
        return TEXT.matcher(text).matches() ? -1 : text.length();
    }

    private void order(String order) {
        String[] words = order.split(" ");
        int[] numbers = new int[words.length];
        for (int k = 1; k < words.length; k++) {
            numbers[k] = Integer.parseInt(words[k]);
        }
        switch (words[0]) {
            case "house" -> household();
            case "go" -> leave(numbers[1]);
            case "bond" -> bond(numbers[1], numbers[2], numbers[3]);
            case "loose" -> loosen(numbers[1], numbers[2]);
            case "marry" -> marry(numbers[1], numbers[2]);
            case "side" -> stand(numbers[1], numbers[2]);
            default -> part();
        }
    }

    public int run() {
        String text = input;
        input = "";
        fault = faultOf(text);
        if (fault >= 0) {
            throw new IllegalArgumentException();
        }
        State before = state.copy();
        List<State> pastBefore = new ArrayList<>(past);
        String[] orders = text.split(";");
        for (int index = 0; index < orders.length; index++) {
            try {
                order(orders[index]);
            } catch (UnsupportedOperationException refused) {
                state = before;
                past.clear();
                past.addAll(pastBefore);
                reasons = List.of(new int[] {8, index}, reasons.get(0));
                throw refused;
            }
        }
        past.clear();
        past.addAll(pastBefore);
        remember(before);
        return orders.length;
    }

    public int faultPosition() {
        return fault;
    }

    public int reason(int depth, boolean isDetail) {
        if (depth < 0 || depth > 1) {
            throw new IllegalArgumentException();
        }
        if (depth >= reasons.size()) {
            throw new NoSuchElementException();
        }
        return reasons.get(depth)[isDetail ? 1 : 0];
    }

    private int writes(String text) {
        line = text;
        return line.length();
    }

    public int tell() {
        List<String> bonds = new ArrayList<>();
        for (int[] bond : sortedBonds()) {
            bonds.add("" + bond[0] + bond[1] + "=" + bond[2]);
        }
        return writes(String.join(" ", bonds));
    }

    public int tellPhase(int phase) {
        Phase of = phase(phase);
        return writes(String.join("<", of.groups().stream().map(this::told).toList()) + "=" + of.cut());
    }

    public int tellSides() {
        return writes(told(onSide(0)) + "|" + told(onSide(1)));
    }

    public char character(int index) {
        if (index < 0 || index >= line.length()) {
            throw new IndexOutOfBoundsException();
        }
        return line.charAt(index);
    }

    private int weights() {
        return state.ties.stream().mapToInt(tie -> tie.weight).sum();
    }

    public int account(int what) {
        List<Integer> accounts = List.of(size(), state.ties.size(), weights(), onSide(1).size(),
                (int) sortedBonds().stream().filter(bond -> state.people.get(bond[0]).side
                        != state.people.get(bond[1]).side).count());
        List<Integer> more = List.of(state.came, state.went, state.weddings,
                (int) everyone().stream().filter(k -> partOf(k) == 1 << k).count(),
                input.length(), past.size());
        if (what < 0 || what > 10) {
            throw new IllegalArgumentException();
        }
        return what < 5 ? accounts.get(what) : more.get(what - 5);
    }

    public double meanWeight() {
        if (state.ties.isEmpty()) {
            throw new ArithmeticException();
        }
        return (double) weights() / state.ties.size();
    }

    public float feudShare() {
        if (state.ties.isEmpty()) {
            throw new ArithmeticException();
        }
        return (float) feud() / weights();
    }

    public int undo() {
        if (past.isEmpty()) {
            throw new IllegalStateException();
        }
        state = past.pop();
        return past.size();
    }

    public int save() {
        saved = state.copy();
        return size();
    }

    public int restore() {
        if (saved == null) {
            throw new IllegalStateException();
        }
        state = saved.copy();
        past.clear();
        return size();
    }
}
