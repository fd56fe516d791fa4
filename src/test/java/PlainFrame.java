import java.util.ArrayList;
import java.util.HashMap;
import java.util.HashSet;
import java.util.List;
import java.util.Map;
import java.util.Set;
import java.util.TreeSet;

/** A second frame, as near to the words of the document as can be and with no thought of speed. */
final class PlainFrame {
    /** A rule; condition is -1 or twice the lever plus 1 for "reversed". */
    record Rule(int kind, int a, int b, int condition) {
        boolean active(int state) {
            return condition < 0 || (state >> condition / 2 & 1) == condition % 2;
        }

        boolean makesIllegal(int state) {
            boolean reversedA = (state >> a & 1) == 1;
            boolean reversedB = (state >> b & 1) == 1;
            if (a == b) {
                return kind == 0 && active(state) && reversedA;
            }
            if (kind == 0) {
                return active(state) && reversedA && reversedB;
            }
            return kind == 1 && active(state) && reversedB && !reversedA;
        }

        boolean forbidsMoving(int state, int lever) {
            return kind == 2 && a != b && lever == b && active(state) && (state >> a & 1) == 1;
        }

        boolean blocks(int state, int lever) {
            return forbidsMoving(state, lever) || makesIllegal(state ^ 1 << lever);
        }

        Rule merged(int from, int to) {
            int newCondition = condition >= 0 && condition / 2 == from ? 2 * to + condition % 2 : condition;
            return new Rule(kind, a == from ? to : a, b == from ? to : b, newCondition);
        }
    }

    int levers = 2;
    Set<Integer> gone = new TreeSet<>();
    List<Rule> rules = new ArrayList<>();
    List<Set<Integer>> routes = new ArrayList<>();
    List<int[]> conflicts = new ArrayList<>();
    int state = 0;
    List<Object[]> past = new ArrayList<>();

    PlainFrame with(List<Rule> otherRules) {
        PlainFrame other = new PlainFrame();
        other.levers = levers;
        other.gone = new TreeSet<>(gone);
        other.rules = new ArrayList<>(otherRules);
        other.routes = new ArrayList<>(routes);
        other.conflicts = conflicts;
        return other;
    }

    // ---- working the frame; a memory of whole frames stands for undo

    private void remember() {
        past.add(new Object[] {state, new ArrayList<>(rules)});
        if (past.size() > 12) {
            past.remove(0);
        }
    }

    int moveLever(int lever) {
        if (lever < 0 || lever >= levers) {
            return -2;
        }
        if (!allowed(state, lever)) {
            return -6;
        }
        remember();
        state ^= 1 << lever;
        return state;
    }

    int addRule(int kind, int a, int b, int condition) {
        if (a < 0 || a >= levers || b < 0 || b >= levers || condition >= 2 * levers) {
            return -2;
        }
        if (kind < 0 || kind > 2 || condition < -1 || a == b
                || condition >= 0 && (condition / 2 == a || condition / 2 == b)) {
            return -3;
        }
        if (rules.size() == 24) {
            return -4;
        }
        Rule rule = new Rule(kind, a, b, condition);
        if (rule.makesIllegal(state)) {
            return -6;
        }
        remember();
        rules.add(rule);
        return rules.size();
    }

    int removeRule(int rule) {
        if (rule < 0 || rule >= rules.size()) {
            return -2;
        }
        remember();
        rules.remove(rule);
        return rules.size();
    }

    @SuppressWarnings("unchecked")
    int undo() {
        if (past.isEmpty()) {
            return -5;
        }
        Object[] before = past.remove(past.size() - 1);
        state = (Integer) before[0];
        rules = (List<Rule>) before[1];
        return past.size();
    }

    // ---- states and moves

    boolean legal(int someState) {
        return rules.stream().noneMatch(rule -> rule.makesIllegal(someState));
    }

    int blockingRule(int someState, int lever) {
        for (int rule = 0; rule < rules.size(); rule++) {
            if (rules.get(rule).blocks(someState, lever)) {
                return rule;
            }
        }
        return -1;
    }

    boolean allowed(int someState, int lever) {
        return !gone.contains(lever) && blockingRule(someState, lever) == -1;
    }

    int freeLevers(int someState) {
        int free = 0;
        for (int lever = 0; lever < levers; lever++) {
            free |= allowed(someState, lever) ? 1 << lever : 0;
        }
        return free;
    }

    /** The distances from a state, found wave by wave. */
    Map<Integer, Integer> distances(int from) {
        Map<Integer, Integer> found = new HashMap<>();
        Set<Integer> wave = new HashSet<>(Set.of(from));
        for (int moves = 0; !wave.isEmpty(); moves++) {
            Set<Integer> next = new HashSet<>();
            for (int at : wave) {
                found.put(at, moves);
            }
            for (int at : wave) {
                for (int lever = 0; lever < levers; lever++) {
                    if (!found.containsKey(at ^ 1 << lever) && allowed(at, lever)) {
                        next.add(at ^ 1 << lever);
                    }
                }
            }
            wave = next;
        }
        return found;
    }

    Set<Integer> reachable() {
        return new TreeSet<>(distances(0).keySet());
    }

    int distance(int from, int to) {
        Set<Integer> reachable = reachable();
        return reachable.contains(from) && reachable.contains(to) ? distances(from).get(to) : -1;
    }

    int nextMove(int from, int to) {
        int whole = distance(from, to);
        for (int lever = 0; lever < levers && whole > 0; lever++) {
            if (allowed(from, lever) && distance(from ^ 1 << lever, to) == whole - 1) {
                return lever;
            }
        }
        return -1;
    }

    int excludedLevers(int lever) {
        int excluded = 0;
        for (int other = 0; other < levers; other++) {
            int both = 1 << lever | 1 << other;
            if (other != lever && reachable().stream().noneMatch(at -> (at & both) == both)) {
                excluded |= 1 << other;
            }
        }
        return excluded;
    }

    // ---- routes and conflicts

    boolean sets(int someState, int route) {
        return routes.get(route).stream().allMatch(lever -> (someState >> lever & 1) == 1);
    }

    boolean settable(int route) {
        return reachable().stream().anyMatch(at -> sets(at, route));
    }

    boolean isProtected(int conflict) {
        return jointStates(conflicts.get(conflict)[0], conflicts.get(conflict)[1]) == 0;
    }

    int settingState(int route) {
        Map<Integer, Integer> distances = distances(0);
        int best = -1;
        for (int at : reachable()) {
            if (sets(at, route) && (best < 0 || distances.get(at) < distances.get(best))) {
                best = at;
            }
        }
        return best;
    }

    int settingMoves(int route) {
        return settable(route) ? distances(0).get(settingState(route)) : -1;
    }

    int jointStates(int a, int b) {
        return (int) reachable().stream().filter(at -> sets(at, a) && sets(at, b)).count();
    }

    int unprotectedConflicts() {
        int open = 0;
        for (int conflict = 0; conflict < conflicts.size(); conflict++) {
            open |= isProtected(conflict) ? 0 : 1 << conflict;
        }
        return open;
    }

    private boolean keepsSettable(PlainFrame other) {
        for (int route = 0; route < routes.size(); route++) {
            if (settable(route) && !other.settable(route)) {
                return false;
            }
        }
        return true;
    }

    private PlainFrame withLock(int a, int b) {
        List<Rule> more = new ArrayList<>(rules);
        more.add(new Rule(0, a, b, -1));
        return with(more);
    }

    int proposedLock(int conflict) {
        int best = -1;
        for (int a : routes.get(conflicts.get(conflict)[0])) {
            for (int b : routes.get(conflicts.get(conflict)[1])) {
                if (a == b || best >= 0 && best < 100 * a + b) {
                    continue;
                }
                PlainFrame locked = withLock(a, b);
                if (locked.isProtected(conflict) && keepsSettable(locked)) {
                    best = 100 * a + b;
                }
            }
        }
        return best;
    }

    /** The locks of the completion; null if it fails. */
    List<Integer> completion() {
        List<Integer> locks = new ArrayList<>();
        PlainFrame grown = with(rules);
        for (int conflict = 0; conflict < conflicts.size(); conflict++) {
            if (grown.isProtected(conflict)) {
                continue;
            }
            int lock = grown.proposedLock(conflict);
            if (lock == -1) {
                return null;
            }
            locks.add(lock);
            grown = grown.withLock(lock / 100, lock % 100);
        }
        return locks;
    }

    int largestRouteSet() {
        Set<Integer> reachable = reachable();
        int best = 0;
        for (int set = 1; set < 1 << routes.size(); set++) {
            int chosen = set;
            boolean together = reachable.stream().anyMatch(at -> setsAll(at, chosen));
            if (together && Integer.bitCount(set) > Integer.bitCount(best)) {
                best = set;
            }
        }
        return best;
    }

    private boolean setsAll(int someState, int set) {
        for (int route = 0; route < routes.size(); route++) {
            if ((set >> route & 1) == 1 && !sets(someState, route)) {
                return false;
            }
        }
        return true;
    }

    int farthestState() {
        Map<Integer, Integer> distances = distances(0);
        int best = 0;
        for (int at : reachable()) {
            best = distances.get(at) > distances.get(best) ? at : best;
        }
        return best;
    }

    // ---- reduction and tests

    private static boolean sameFrame(PlainFrame one, PlainFrame other) {
        Set<Integer> reachable = one.reachable();
        return reachable.equals(other.reachable())
                && reachable.stream().allMatch(at -> one.freeLevers(at) == other.freeLevers(at));
    }

    private PlainFrame without(Rule rule) {
        List<Rule> fewer = new ArrayList<>();
        for (Rule other : rules) {
            if (other != rule) {
                fewer.add(other);
            }
        }
        return with(fewer);
    }

    boolean isImplied(int rule) {
        return sameFrame(this, without(rules.get(rule)));
    }

    int reducedSheet() {
        PlainFrame left = with(rules);
        int kept = 0;
        for (int rule = rules.size() - 1; rule >= 0; rule--) {
            PlainFrame fewer = left.without(rules.get(rule));
            if (sameFrame(left, fewer)) {
                left = fewer;
            } else {
                kept |= 1 << rule;
            }
        }
        return kept;
    }

    /** The shortest test, found from its end: for each state, how many moves a test still needs from there. */
    List<Integer> test(int rule) {
        PlainFrame fewer = without(rules.get(rule));
        Set<Integer> reachable = reachable();
        Map<Integer, Integer> needed = new HashMap<>();
        for (int at : reachable) {
            if ((fewer.freeLevers(at) & ~freeLevers(at)) != 0) {
                needed.put(at, 1);
            }
        }
        for (int round = 1; round <= reachable.size(); round++) {
            for (int at : reachable) {
                for (int lever = 0; lever < levers; lever++) {
                    boolean leads = allowed(at, lever) && needed.getOrDefault(at ^ 1 << lever, 0) == round;
                    if (leads && !needed.containsKey(at)) {
                        needed.put(at, round + 1);
                    }
                }
            }
        }
        if (!needed.containsKey(0)) {
            return List.of();
        }
        List<Integer> moves = new ArrayList<>();
        int at = 0;
        while (needed.get(at) > 1) {
            int lever = 0;
            while (!allowed(at, lever) || needed.getOrDefault(at ^ 1 << lever, 9999) != needed.get(at) - 1) {
                lever++;
            }
            moves.add(lever);
            at ^= 1 << lever;
        }
        moves.add(Integer.numberOfTrailingZeros(fewer.freeLevers(at) & ~freeLevers(at)));
        return moves;
    }

    // ---- merging

    PlainFrame merged(int a, int b) {
        int low = Math.min(a, b);
        int high = Math.max(a, b);
        PlainFrame other = with(rules.stream().map(rule -> rule.merged(high, low)).toList());
        other.gone.add(high);
        for (int route = 0; route < routes.size(); route++) {
            Set<Integer> replaced = new TreeSet<>();
            for (int lever : routes.get(route)) {
                replaced.add(lever == high ? low : lever);
            }
            other.routes.set(route, replaced);
        }
        return other;
    }

    boolean accepts(PlainFrame merged) {
        return keepsSettable(merged) && (merged.unprotectedConflicts() & ~unprotectedConflicts()) == 0;
    }

    int leversAfterMerging() {
        PlainFrame at = this;
        for (PlainFrame next = nextMerge(at); next != null; next = nextMerge(at)) {
            at = next;
        }
        return levers - at.gone.size();
    }

    private PlainFrame nextMerge(PlainFrame at) {
        for (int low = 0; low < levers; low++) {
            for (int high = low + 1; high < levers; high++) {
                if (at.gone.contains(low) || at.gone.contains(high)) {
                    continue;
                }
                PlainFrame merged = at.merged(low, high);
                if (accepts(merged)) {
                    return merged;
                }
            }
        }
        return null;
    }

    // ---- the sheet that says the same

    String sheet() {
        StringBuilder text = new StringBuilder("levers " + levers + ";");
        for (Rule rule : rules) {
            text.append(rule.a).append(List.of(" locks ", " releases ", " holds ").get(rule.kind)).append(rule.b);
            if (rule.condition >= 0) {
                text.append(" when ").append(rule.condition / 2);
                text.append(rule.condition % 2 == 1 ? " reversed" : " normal");
            }
            text.append(';');
        }
        for (Set<Integer> route : routes) {
            text.append("route");
            route.forEach(lever -> text.append(' ').append(lever));
            text.append(';');
        }
        for (int[] conflict : conflicts) {
            text.append("conflict ").append(conflict[0]).append(' ').append(conflict[1]).append(';');
        }
        return text.toString();
    }
}
