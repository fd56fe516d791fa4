import java.util.Arrays;

/** A designer and checker for a mechanical railway interlocking (a lever frame with tappet locking). */
public final class InterlockingFrame {
    public static final int NONE = -1;
    public static final int NO_SUCH = -2;
    public static final int BAD_VALUE = -3;
    public static final int FULL = -4;
    public static final int EMPTY = -5;
    public static final int BLOCKED = -6;

    private static final int HOME = 0;
    private static final int LOCKS = 0;
    private static final int RELEASES = 1;
    private static final int HOLDS = 2;
    private static final int NO_RULE = 0;
    private static final int FEWEST_LEVERS = 2;
    private static final int MOST_LEVERS = 12;
    private static final int MOST_STATES = 4096;
    private static final int MOST_RULES = 24;
    private static final int MOST_ROUTES = 8;
    private static final int MOST_CONFLICTS = 8;
    private static final int MOST_BYTES = 900;
    private static final int BYTES_A_CALL = 20;

    private final SheetParser parser = new SheetParser();
    private final Sheet sheet = new Sheet();
    private final Sheet draft = new Sheet();
    private final History history = new History();
    private int current = HOME;

    // The searches are dear, so what they find is kept until a rule or the sheet changes.
    private final Search home = new Search();
    private boolean homeIsKnown = false;
    private final Search trial = new Search();
    private final LockPlanner planner = new LockPlanner();
    private final Merger merger = new Merger();
    private boolean mergingIsKnown = false;
    private int leversLeft = FEWEST_LEVERS;

    public InterlockingFrame() {
    }

    public int appendBytes(int a, int b, int c, int d, int e) {
        if (parser.textLength + BYTES_A_CALL > MOST_BYTES) {
            return FULL;
        }
        parser.append(a);
        parser.append(b);
        parser.append(c);
        parser.append(d);
        parser.append(e);
        return parser.textLength;
    }

    public int parseSheet(int n) {
        if (n < 0 || n > parser.textLength) {
            return BAD_VALUE;
        }
        if (!parser.read(n, draft)) {
            return -30 - parser.errorCode;
        }
        sheet.copyFrom(draft);
        current = HOME;
        history.clear();
        forgetFindings();
        return 1 + sheet.ruleTotal + sheet.routeTotal + sheet.conflictTotal;
    }

    public int parseError() {
        return parser.errorCode;
    }

    public int parseErrorOffset() {
        return parser.errorOffset;
    }

    public int bufferLength() {
        return parser.textLength;
    }

    public int leverCount() {
        return sheet.levers;
    }

    public int ruleCount() {
        return sheet.ruleTotal;
    }

    public int ruleKind(int rule) {
        return sheet.hasRule(rule) ? Rule.kind(sheet.rules[rule]) : NO_SUCH;
    }

    public int ruleLevers(int rule) {
        if (!sheet.hasRule(rule)) {
            return NO_SUCH;
        }
        return leverPair(Rule.leverA(sheet.rules[rule]), Rule.leverB(sheet.rules[rule]));
    }

    public int ruleCondition(int rule) {
        return sheet.hasRule(rule) ? Rule.condition(sheet.rules[rule]) : NO_SUCH;
    }

    public int routeCount() {
        return sheet.routeTotal;
    }

    public int routeLevers(int route) {
        return sheet.hasRoute(route) ? sheet.routes[route] : NO_SUCH;
    }

    public int conflictCount() {
        return sheet.conflictTotal;
    }

    public int currentState() {
        return current;
    }

    public int moveLever(int lever) {
        if (!sheet.hasLever(lever)) {
            return NO_SUCH;
        }
        if (sheet.firstBlocker(current, lever) != NONE) {
            return BLOCKED;
        }
        current ^= 1 << lever;
        history.note(History.MOVED, lever, NO_RULE);
        return current;
    }

    public int addRule(int kind, int leverA, int leverB, int condition) {
        if (!sheet.hasLever(leverA) || !sheet.hasLever(leverB)
                || condition >= 0 && !sheet.hasLever(condition >> 1)) {
            return NO_SUCH;
        }
        if (kind < LOCKS || kind > HOLDS || condition < NONE || leverA == leverB
                || condition >= 0 && (condition >> 1 == leverA || condition >> 1 == leverB)) {
            return BAD_VALUE;
        }
        if (sheet.ruleTotal >= MOST_RULES) {
            return FULL;
        }
        int rule = Rule.pack(kind, leverA, leverB, condition);
        if (Rule.forbids(rule, current)) {
            return BLOCKED;
        }
        history.note(History.ADDED, sheet.ruleTotal, rule);
        sheet.insertRule(sheet.ruleTotal, rule);
        forgetFindings();
        return sheet.ruleTotal;
    }

    public int removeRule(int rule) {
        if (!sheet.hasRule(rule)) {
            return NO_SUCH;
        }
        history.note(History.REMOVED, rule, sheet.rules[rule]);
        sheet.dropRule(rule);
        forgetFindings();
        return sheet.ruleTotal;
    }

    public int undo() {
        if (!history.takeLatest()) {
            return EMPTY;
        }
        if (history.takenDeed == History.MOVED) {
            current ^= 1 << history.takenSubject;
            return history.total;
        }
        if (history.takenDeed == History.ADDED) {
            sheet.dropRule(history.takenSubject);
        } else {
            sheet.insertRule(history.takenSubject, history.takenRule);
        }
        forgetFindings();
        return history.total;
    }

    public int isLegal(int state) {
        if (!sheet.hasState(state)) {
            return BAD_VALUE;
        }
        return sheet.permits(state) ? 1 : 0;
    }

    public int blockingRule(int state, int lever) {
        if (!sheet.hasLever(lever)) {
            return NO_SUCH;
        }
        if (!sheet.hasState(state)) {
            return BAD_VALUE;
        }
        return sheet.firstBlocker(state, lever);
    }

    public int freeLevers(int state) {
        if (!sheet.hasState(state)) {
            return BAD_VALUE;
        }
        int free = 0;
        for (int lever = 0; lever < sheet.levers; lever++) {
            if (sheet.firstBlocker(state, lever) == NONE) {
                free |= 1 << lever;
            }
        }
        return free;
    }

    public int reachableCount() {
        return searchedHome().total;
    }

    public int distance(int from, int to) {
        if (!sheet.hasState(from) || !sheet.hasState(to)) {
            return BAD_VALUE;
        }
        return searchBetween(from, to) ? trial.movesTo(to) : NONE;
    }

    public int nextMove(int from, int to) {
        if (!sheet.hasState(from) || !sheet.hasState(to)) {
            return BAD_VALUE;
        }
        return from != to && searchBetween(from, to) ? trial.leverOnWay(to, 0) : NONE;
    }

    public int excludedLevers(int lever) {
        if (!sheet.hasLever(lever)) {
            return NO_SUCH;
        }
        int together = searchedHome().leversSeenWith(lever);
        return sheet.allLevers() & ~together & ~(1 << lever);
    }

    public int settingState(int route) {
        if (!sheet.hasRoute(route)) {
            return NO_SUCH;
        }
        return searchedHome().nearestSetting(sheet.routes[route]);
    }

    public int settingMoves(int route) {
        if (!sheet.hasRoute(route)) {
            return NO_SUCH;
        }
        Search search = searchedHome();
        return search.movesTo(search.nearestSetting(sheet.routes[route]));
    }

    public int jointStates(int routeA, int routeB) {
        if (!sheet.hasRoute(routeA) || !sheet.hasRoute(routeB)) {
            return NO_SUCH;
        }
        return searchedHome().countSetting(sheet.routes[routeA] | sheet.routes[routeB]);
    }

    public int unprotectedConflicts() {
        return sheet.openConflicts(searchedHome());
    }

    public int proposedLock(int conflict) {
        if (!sheet.hasConflict(conflict)) {
            return NO_SUCH;
        }
        int settable = sheet.settableRoutes(searchedHome());
        return planner.propose(trial, sheet, conflict, home.locking, settable);
    }

    public int completionSize() {
        return planner.complete(trial, sheet, searchedHome());
    }

    public int completionLock(int index) {
        if (index < 0) {
            return BAD_VALUE;
        }
        int size = planner.complete(trial, sheet, searchedHome());
        return index < size && index < MOST_CONFLICTS ? planner.locks[index] : NONE;
    }

    public int largestRouteSet() {
        return sheet.largestJointSet(searchedHome());
    }

    public int farthestState() {
        return searchedHome().farthest();
    }

    public int isImplied(int rule) {
        if (!sheet.hasRule(rule)) {
            return NO_SUCH;
        }
        return placeFreedWithout(rule) == NONE ? 1 : 0;
    }

    public int reducedSheet() {
        Search search = searchedHome();
        int kept = sheet.allRules();
        for (int rule = sheet.ruleTotal - 1; rule >= 0; rule--) {
            // What was dropped before changed no reachable move: the whole sheet is still the measure.
            trial.locking.enforceAll(sheet, kept & ~(1 << rule));
            if (search.firstPlaceFreed(trial.locking) == NONE) {
                kept &= ~(1 << rule);
            }
        }
        return kept;
    }

    public int testLength(int rule) {
        if (!sheet.hasRule(rule)) {
            return NO_SUCH;
        }
        int place = placeFreedWithout(rule);
        return place == NONE ? NONE : home.movesTo(home.stateAt(place)) + 1;
    }

    public int testMove(int rule, int index) {
        if (!sheet.hasRule(rule)) {
            return NO_SUCH;
        }
        if (index < 0) {
            return BAD_VALUE;
        }
        int place = placeFreedWithout(rule);
        if (place == NONE) {
            return NONE;
        }
        int last = home.stateAt(place);
        int moves = home.movesTo(last);
        if (index > moves) {
            return NONE;
        }
        return index < moves ? home.leverOnWay(last, index) : home.leverFreed(trial.locking, last);
    }

    public int isMergeable(int leverA, int leverB) {
        int count = countMerged(leverA, leverB);
        if (count < 0) {
            return count;
        }
        return merger.keepsRoutesAndConflicts(trial) ? 1 : 0;
    }

    public int mergedReachableCount(int leverA, int leverB) {
        return countMerged(leverA, leverB);
    }

    public int leversAfterMerging() {
        if (!mergingIsKnown) {
            merger.begin(sheet, searchedHome());
            leversLeft = sheet.levers;
            for (int step = 0; step < MOST_LEVERS && merger.mergeFirstPair(trial); step++) {
                leversLeft--;
            }
            mergingIsKnown = true;
        }
        return leversLeft;
    }

    private void forgetFindings() {
        homeIsKnown = false;
        planner.forget();
        mergingIsKnown = false;
    }

    private Search searchedHome() {
        if (!homeIsKnown) {
            home.locking.enforceAll(sheet, sheet.allRules());
            home.explore(HOME, sheet.movableLevers());
            homeIsKnown = true;
        }
        return home;
    }

    /** Searches from the one state, unless one of the two is out of reach. */
    private boolean searchBetween(int from, int to) {
        Search search = searchedHome();
        if (!search.reached(from) || !search.reached(to)) {
            return false;
        }
        trial.locking.copyFrom(search.locking);
        trial.explore(from, sheet.movableLevers());
        return trial.reached(to);
    }

    /**
     * The place in the search from home at which the rule is first missed, if the sheet does without it. If it is
     * missed nowhere, no new state can be reached either, and the rule is implied; otherwise its test ends there.
     */
    private int placeFreedWithout(int rule) {
        Search search = searchedHome();
        trial.locking.enforceAll(sheet, sheet.allRules() & ~(1 << rule));
        return search.firstPlaceFreed(trial.locking);
    }

    /** Attempts the merge and counts its reachable states; or the refusal of the levers. */
    private int countMerged(int leverA, int leverB) {
        if (!sheet.hasLever(leverA) || !sheet.hasLever(leverB)) {
            return NO_SUCH;
        }
        if (leverA == leverB) {
            return BAD_VALUE;
        }
        merger.begin(sheet, searchedHome());
        merger.attempt(trial, Math.min(leverA, leverB), Math.max(leverA, leverB));
        return trial.total;
    }

    private static int leverPair(int leverA, int leverB) {
        return 100 * leverA + leverB;
    }

    /** A rule is packed into one int, so that rows of rules hold no references. */
    private static final class Rule {
        static int pack(int kind, int leverA, int leverB, int condition) {
            return kind << 16 | leverA << 12 | leverB << 8 | condition + 1;
        }

        static int kind(int rule) {
            return rule >> 16;
        }

        static int leverA(int rule) {
            return rule >> 12 & 15;
        }

        static int leverB(int rule) {
            return rule >> 8 & 15;
        }

        static int condition(int rule) {
            return (rule & 255) - 1;
        }

        /** The levers that are reversed in every state in which the rule bites. */
        static int reversedLevers(int rule) {
            int levers = 0;
            if (kind(rule) != RELEASES) {
                levers |= 1 << leverA(rule);
            }
            if (kind(rule) != HOLDS) {
                levers |= 1 << leverB(rule);
            }
            if (condition(rule) >= 0 && (condition(rule) & 1) == 1) {
                levers |= 1 << (condition(rule) >> 1);
            }
            return levers;
        }

        /** The levers that are normal in every state in which the rule bites. */
        static int normalLevers(int rule) {
            int levers = 0;
            if (kind(rule) == RELEASES) {
                levers |= 1 << leverA(rule);
            }
            if (condition(rule) >= 0 && (condition(rule) & 1) == 0) {
                levers |= 1 << (condition(rule) >> 1);
            }
            return levers;
        }

        static boolean bites(int rule, int state) {
            int reversed = reversedLevers(rule);
            return (state & reversed) == reversed && (state & normalLevers(rule)) == 0;
        }

        static boolean forbids(int rule, int state) {
            return kind(rule) != HOLDS && bites(rule, state);
        }

        static boolean blocks(int rule, int state, int lever) {
            if (kind(rule) == HOLDS) {
                return leverB(rule) == lever && bites(rule, state);
            }
            return bites(rule, state ^ 1 << lever);
        }

        static int withLeverReplaced(int rule, int old, int replacement) {
            int leverA = leverA(rule) == old ? replacement : leverA(rule);
            int leverB = leverB(rule) == old ? replacement : leverB(rule);
            int condition = condition(rule);
            if (condition >= 0 && condition >> 1 == old) {
                condition = 2 * replacement + (condition & 1);
            }
            return pack(kind(rule), leverA, leverB, condition);
        }
    }

    /** The contents of a locking sheet. */
    private static final class Sheet {
        int levers = FEWEST_LEVERS;
        /** Levers that were merged into others: they stay normal and are never moved. */
        int mergedLevers = 0;
        final int[] rules = new int[MOST_RULES];
        int ruleTotal = 0;
        final int[] routes = new int[MOST_ROUTES];
        int routeTotal = 0;
        final int[] conflictFirst = new int[MOST_CONFLICTS];
        final int[] conflictSecond = new int[MOST_CONFLICTS];
        int conflictTotal = 0;

        void wipe(int newLevers) {
            levers = newLevers;
            mergedLevers = 0;
            ruleTotal = 0;
            routeTotal = 0;
            conflictTotal = 0;
        }

        void copyFrom(Sheet other) {
            levers = other.levers;
            mergedLevers = other.mergedLevers;
            ruleTotal = other.ruleTotal;
            routeTotal = other.routeTotal;
            conflictTotal = other.conflictTotal;
            System.arraycopy(other.rules, 0, rules, 0, MOST_RULES);
            System.arraycopy(other.routes, 0, routes, 0, MOST_ROUTES);
            System.arraycopy(other.conflictFirst, 0, conflictFirst, 0, MOST_CONFLICTS);
            System.arraycopy(other.conflictSecond, 0, conflictSecond, 0, MOST_CONFLICTS);
        }

        boolean hasLever(int lever) {
            return lever >= 0 && lever < levers;
        }

        boolean hasState(int state) {
            return state >= 0 && state <= allLevers();
        }

        boolean hasRule(int rule) {
            return rule >= 0 && rule < ruleTotal;
        }

        boolean hasRoute(int route) {
            return route >= 0 && route < routeTotal;
        }

        boolean hasConflict(int conflict) {
            return conflict >= 0 && conflict < conflictTotal;
        }

        int allLevers() {
            return (1 << levers) - 1;
        }

        int movableLevers() {
            return allLevers() & ~mergedLevers;
        }

        boolean canMove(int lever) {
            return (movableLevers() >> lever & 1) == 1;
        }

        int allRules() {
            return (1 << ruleTotal) - 1;
        }

        void insertRule(int place, int rule) {
            if (place < 0 || place > ruleTotal || ruleTotal >= MOST_RULES) {
                return;
            }
            System.arraycopy(rules, place, rules, place + 1, ruleTotal - place);
            rules[place] = rule;
            ruleTotal++;
        }

        void dropRule(int place) {
            if (!hasRule(place)) {
                return;
            }
            ruleTotal--;
            System.arraycopy(rules, place + 1, rules, place, ruleTotal - place);
        }

        void insertRoute(int route) {
            if (routeTotal < MOST_ROUTES) {
                routes[routeTotal] = route;
                routeTotal++;
            }
        }

        void insertConflict(int first, int second) {
            if (conflictTotal < MOST_CONFLICTS) {
                conflictFirst[conflictTotal] = first;
                conflictSecond[conflictTotal] = second;
                conflictTotal++;
            }
        }

        boolean declaresConflict(int first, int second) {
            for (int conflict = 0; conflict < conflictTotal; conflict++) {
                if (conflictFirst[conflict] == first && conflictSecond[conflict] == second
                        || conflictFirst[conflict] == second && conflictSecond[conflict] == first) {
                    return true;
                }
            }
            return false;
        }

        int leversOfRoute(int route) {
            return hasRoute(route) ? routes[route] : 0;
        }

        boolean permits(int state) {
            for (int rule = 0; rule < ruleTotal; rule++) {
                if (Rule.forbids(rules[rule], state)) {
                    return false;
                }
            }
            return true;
        }

        int firstBlocker(int state, int lever) {
            for (int rule = 0; rule < ruleTotal; rule++) {
                if (Rule.blocks(rules[rule], state, lever)) {
                    return rule;
                }
            }
            return NONE;
        }

        int settableRoutes(Search search) {
            int settable = 0;
            for (int route = 0; route < routeTotal; route++) {
                if (search.someStateSets(routes[route])) {
                    settable |= 1 << route;
                }
            }
            return settable;
        }

        int openConflicts(Search search) {
            int open = 0;
            for (int conflict = 0; conflict < conflictTotal; conflict++) {
                int both = leversOfRoute(conflictFirst[conflict]) | leversOfRoute(conflictSecond[conflict]);
                if (search.someStateSets(both)) {
                    open |= 1 << conflict;
                }
            }
            return open;
        }

        int routesSetIn(int state) {
            int set = 0;
            for (int route = 0; route < routeTotal; route++) {
                if ((state & routes[route]) == routes[route]) {
                    set |= 1 << route;
                }
            }
            return set;
        }

        int largestJointSet(Search search) {
            int largest = 0;
            for (int place = 0; place < search.total; place++) {
                int set = routesSetIn(search.stateAt(place));
                int more = Integer.bitCount(set) - Integer.bitCount(largest);
                if (more > 0 || more == 0 && set < largest) {
                    largest = set;
                }
            }
            return largest;
        }

        void mergeLever(int high, int low) {
            mergedLevers |= 1 << high;
            for (int rule = 0; rule < ruleTotal; rule++) {
                rules[rule] = Rule.withLeverReplaced(rules[rule], high, low);
            }
            for (int route = 0; route < routeTotal; route++) {
                if ((routes[route] >> high & 1) == 1) {
                    routes[route] = routes[route] & ~(1 << high) | 1 << low;
                }
            }
        }
    }

    /** What a set of rules forbids, spread out over all states, so that a search asks no rule. */
    private static final class Locking {
        private static final int STATES_IN_WORD = 64;
        private static final int LEVERS_IN_WORD = 6;
        private static final int WORDS = MOST_STATES / STATES_IN_WORD;
        /** For the six lowest levers: which of 64 states in a row have the lever reversed. */
        private static final long[] REVERSED_IN_WORD = {
            0xAAAAAAAAAAAAAAAAL, 0xCCCCCCCCCCCCCCCCL, 0xF0F0F0F0F0F0F0F0L,
            0xFF00FF00FF00FF00L, 0xFFFF0000FFFF0000L, 0xFFFFFFFF00000000L
        };

        private final long[] illegal = new long[WORDS];
        /** For each lever, one behind the other, the states in which it is held. */
        private final long[] held = new long[MOST_LEVERS * WORDS];

        void copyFrom(Locking other) {
            System.arraycopy(other.illegal, 0, illegal, 0, WORDS);
            System.arraycopy(other.held, 0, held, 0, MOST_LEVERS * WORDS);
        }

        /** Enforces the rules of the sheet that are in the bit set, and no others. */
        void enforceAll(Sheet sheet, int chosen) {
            Arrays.fill(illegal, 0L);
            Arrays.fill(held, 0L);
            for (int rule = 0; rule < sheet.ruleTotal; rule++) {
                if ((chosen >> rule & 1) == 1) {
                    enforce(sheet.rules[rule]);
                }
            }
        }

        void enforce(int rule) {
            int reversed = Rule.reversedLevers(rule);
            int normal = Rule.normalLevers(rule);
            if (Rule.kind(rule) != HOLDS) {
                addStates(illegal, 0, reversed, normal);
            } else if (Rule.leverA(rule) != Rule.leverB(rule)) {
                // After a merge a lever may stand on both sides of a rule; then it holds nothing.
                addStates(held, Rule.leverB(rule) * WORDS, reversed, normal);
            }
        }

        /** Adds all states with these levers reversed and those normal, 64 at a time: searches for merges are many. */
        private static void addStates(long[] row, int start, int reversed, int normal) {
            long inWord = statesInWord(reversed, normal);
            int highReversed = reversed >> LEVERS_IN_WORD;
            int highNormal = normal >> LEVERS_IN_WORD;
            for (int word = 0; word < WORDS && start + word < row.length; word++) {
                if ((word & highReversed) == highReversed && (word & highNormal) == 0) {
                    row[start + word] |= inWord;
                }
            }
        }

        private static long statesInWord(int reversed, int normal) {
            long states = -1L;
            for (int lever = 0; lever < LEVERS_IN_WORD; lever++) {
                if ((reversed >> lever & 1) == 1) {
                    states &= REVERSED_IN_WORD[lever];
                }
                if ((normal >> lever & 1) == 1) {
                    states &= ~REVERSED_IN_WORD[lever];
                }
            }
            return states;
        }

        boolean allows(int state, int lever) {
            if (state < 0 || state >= MOST_STATES || lever < 0 || lever >= MOST_LEVERS) {
                return false;
            }
            int result = state ^ 1 << lever;
            long illegalAround = illegal[result / STATES_IN_WORD];
            long heldAround = held[lever * WORDS + state / STATES_IN_WORD];
            return (illegalAround >>> result % STATES_IN_WORD & 1L) == 0L
                    && (heldAround >>> state % STATES_IN_WORD & 1L) == 0L;
        }
    }

    /**
     * The states that a locking lets the frame reach from one state, breadth first and with the levers in rising
     * order. In this order the first way found to a state is, of all shortest ones, the first in lexicographic
     * order, and of two states that are equally far the one whose way comes first is found first.
     */
    private static final class Search {
        private static final int WAY_STEP = 16;

        final Locking locking = new Locking();
        int total = 0;
        private int movable = 0;
        private final int[] order = new int[MOST_STATES];
        /** For each state that was reached, 16 times the number of moves plus the lever moved last; otherwise NONE. */
        private final int[] ways = new int[MOST_STATES];

        Search() {
            Arrays.fill(ways, NONE);
        }

        void explore(int start, int movableLevers) {
            forget();
            movable = movableLevers;
            enter(start, 0);
            for (int place = 0; place < total && place < MOST_STATES; place++) {
                int from = order[place];
                for (int lever = 0; lever < MOST_LEVERS && movable >> lever != 0; lever++) {
                    int to = from ^ 1 << lever;
                    if ((movable >> lever & 1) == 1 && !reached(to) && locking.allows(from, lever)) {
                        enter(to, WAY_STEP * (movesTo(from) + 1) + lever);
                    }
                }
            }
        }

        /** Clears only what the last search has written, as most searches reach few states. */
        private void forget() {
            for (int place = 0; place < total; place++) {
                ways[order[place]] = NONE;
            }
            total = 0;
        }

        private void enter(int state, int way) {
            if (state >= 0 && state < MOST_STATES && total < MOST_STATES) {
                order[total] = state;
                total++;
                ways[state] = way;
            }
        }

        boolean reached(int state) {
            return state >= 0 && state < MOST_STATES && ways[state] != NONE;
        }

        int stateAt(int place) {
            return place >= 0 && place < total ? order[place] : HOME;
        }

        int movesTo(int state) {
            return reached(state) ? ways[state] / WAY_STEP : NONE;
        }

        /** The lever that is moved on the way to the state when so many moves have been made. */
        int leverOnWay(int state, int index) {
            int at = state;
            for (int move = movesTo(state) - 1; move > index && reached(at); move--) {
                at ^= 1 << ways[at] % WAY_STEP;
            }
            return reached(at) ? ways[at] % WAY_STEP : NONE;
        }

        boolean someStateSets(int levers) {
            for (int place = 0; place < total; place++) {
                if ((order[place] & levers) == levers) {
                    return true;
                }
            }
            return false;
        }

        int countSetting(int levers) {
            int count = 0;
            for (int place = 0; place < total; place++) {
                if ((order[place] & levers) == levers) {
                    count++;
                }
            }
            return count;
        }

        /** The nearest state with all these levers reversed; the lowest one, if several are as near. */
        int nearestSetting(int levers) {
            int nearest = NONE;
            for (int place = 0; place < total; place++) {
                int state = order[place];
                boolean sets = (state & levers) == levers;
                if (sets && (nearest == NONE || movesTo(state) == movesTo(nearest) && state < nearest)) {
                    nearest = state;
                }
            }
            return nearest;
        }

        int farthest() {
            int farthest = HOME;
            for (int place = 0; place < total; place++) {
                int state = order[place];
                int more = movesTo(state) - movesTo(farthest);
                if (more > 0 || more == 0 && state < farthest) {
                    farthest = state;
                }
            }
            return farthest;
        }

        int leversSeenWith(int lever) {
            int together = 0;
            for (int place = 0; place < total; place++) {
                if ((order[place] >> lever & 1) == 1) {
                    together |= order[place];
                }
            }
            return together;
        }

        /** The first place in the order where the looser locking lets a lever move that this one does not. */
        int firstPlaceFreed(Locking looser) {
            for (int place = 0; place < total; place++) {
                if (leverFreed(looser, order[place]) != NONE) {
                    return place;
                }
            }
            return NONE;
        }

        /** The lowest lever that the looser locking lets move in the state and this one does not. */
        int leverFreed(Locking looser, int state) {
            for (int lever = 0; lever < MOST_LEVERS && movable >> lever != 0; lever++) {
                if ((movable >> lever & 1) == 1 && !locking.allows(state, lever) && looser.allows(state, lever)) {
                    return lever;
                }
            }
            return NONE;
        }
    }

    /** Finds locks that protect conflicts. */
    private static final class LockPlanner {
        private final Locking grown = new Locking();
        final int[] locks = new int[MOST_CONFLICTS];
        private boolean sizeIsKnown = false;
        private int size = NONE;

        void forget() {
            sizeIsKnown = false;
        }

        /** The lowest lock for the conflict, on top of the base, that leaves these routes settable. */
        int propose(Search trial, Sheet sheet, int conflict, Locking base, int settable) {
            if (!sheet.hasConflict(conflict)) {
                return NONE;
            }
            int first = sheet.leversOfRoute(sheet.conflictFirst[conflict]);
            int second = sheet.leversOfRoute(sheet.conflictSecond[conflict]);
            for (int leverA = 0; leverA < MOST_LEVERS; leverA++) {
                for (int leverB = 0; leverB < MOST_LEVERS; leverB++) {
                    boolean offered = leverA != leverB && (first >> leverA & second >> leverB & 1) == 1;
                    if (offered && keepsRoutes(trial, sheet, base, lockOf(leverA, leverB), settable)) {
                        return leverPair(leverA, leverB);
                    }
                }
            }
            return NONE;
        }

        /** Only the routes are looked at: such a lock always protects, as both routes together need both levers. */
        private static boolean keepsRoutes(Search trial, Sheet sheet, Locking base, int lock, int settable) {
            trial.locking.copyFrom(base);
            trial.locking.enforce(lock);
            trial.explore(HOME, sheet.movableLevers());
            return (settable & ~sheet.settableRoutes(trial)) == 0;
        }

        /** Collects the locks of the completion, unless they are still known; their number, NONE if it fails. */
        int complete(Search trial, Sheet sheet, Search home) {
            if (sizeIsKnown) {
                return size;
            }
            sizeIsKnown = true;
            size = NONE;
            int added = 0;
            int settable = sheet.settableRoutes(home);
            grown.copyFrom(home.locking);
            for (int conflict = 0; conflict < sheet.conflictTotal && added < MOST_CONFLICTS; conflict++) {
                trial.locking.copyFrom(grown);
                trial.explore(HOME, sheet.movableLevers());
                if ((sheet.openConflicts(trial) >> conflict & 1) == 0) {
                    continue;
                }
                int pair = propose(trial, sheet, conflict, grown, settable);
                if (pair == NONE) {
                    return size;
                }
                grown.enforce(lockOf(pair / 100, pair % 100));
                locks[added] = pair;
                added++;
            }
            size = added;
            return size;
        }

        private static int lockOf(int leverA, int leverB) {
            return Rule.pack(LOCKS, leverA, leverB, NONE);
        }
    }

    /** Merges levers, measured against the frame with which it began. */
    private static final class Merger {
        private final Sheet merged = new Sheet();
        private final Sheet attempted = new Sheet();
        private int settable = 0;
        private int open = 0;

        void begin(Sheet sheet, Search search) {
            merged.copyFrom(sheet);
            settable = sheet.settableRoutes(search);
            open = sheet.openConflicts(search);
        }

        void attempt(Search trial, int low, int high) {
            attempted.copyFrom(merged);
            attempted.mergeLever(high, low);
            trial.locking.enforceAll(attempted, attempted.allRules());
            trial.explore(HOME, attempted.movableLevers());
        }

        /** Whether the last attempt leaves settable what was settable, and protected what was protected. */
        boolean keepsRoutesAndConflicts(Search trial) {
            return (settable & ~attempted.settableRoutes(trial)) == 0
                    && (attempted.openConflicts(trial) & ~open) == 0;
        }

        /** Merges the first pair that may be merged; false if there is none. */
        boolean mergeFirstPair(Search trial) {
            for (int low = 0; low < merged.levers; low++) {
                for (int high = low + 1; high < merged.levers; high++) {
                    if (merged.canMove(low) && merged.canMove(high)) {
                        attempt(trial, low, high);
                        if (keepsRoutesAndConflicts(trial)) {
                            merged.copyFrom(attempted);
                            return true;
                        }
                    }
                }
            }
            return false;
        }
    }

    /** The latest calls that can be undone, the oldest first. */
    private static final class History {
        static final int MOVED = 0;
        static final int ADDED = 1;
        static final int REMOVED = 2;
        private static final int MOST_CALLS = 12;

        int total = 0;
        int takenDeed = MOVED;
        int takenSubject = 0;
        int takenRule = NO_RULE;
        private final int[] deeds = new int[MOST_CALLS];
        /** The lever that was moved, or the number of the rule. */
        private final int[] subjects = new int[MOST_CALLS];
        private final int[] rules = new int[MOST_CALLS];

        void clear() {
            total = 0;
        }

        void note(int deed, int subject, int rule) {
            if (total >= MOST_CALLS) {
                forgetOldest();
            }
            deeds[total] = deed;
            subjects[total] = subject;
            rules[total] = rule;
            total++;
        }

        private void forgetOldest() {
            total = MOST_CALLS - 1;
            System.arraycopy(deeds, 1, deeds, 0, total);
            System.arraycopy(subjects, 1, subjects, 0, total);
            System.arraycopy(rules, 1, rules, 0, total);
        }

        boolean takeLatest() {
            if (total <= 0) {
                return false;
            }
            total--;
            takenDeed = deeds[total];
            takenSubject = subjects[total];
            takenRule = rules[total];
            return true;
        }
    }

    /** Holds the text of a sheet; reads it token by token and stops at the first token that is in error. */
    private static final class SheetParser {
        private static final int NOT_ALLOWED = 1;
        private static final int OUT_OF_RANGE = 2;
        private static final int REPEATED = 3;
        private static final int TOO_MANY = 4;
        private static final int MOST_DIGITS = 4;

        int textLength = 0;
        int errorCode = 0;
        int errorOffset = NONE;
        private final int[] text = new int[MOST_BYTES];
        /** So many bytes of the text are read. */
        private int length = 0;
        private int tokenStart = 0;
        private int tokenEnd = 0;

        void append(int word) {
            for (int shift = 24; shift >= 0 && textLength < MOST_BYTES; shift -= 8) {
                text[textLength] = word >>> shift & 255;
                textLength++;
            }
        }

        /** Reads the first bytes as a sheet and empties the text; false if there is an error. */
        boolean read(int n, Sheet sheet) {
            length = Math.min(n, textLength);
            textLength = 0;
            errorCode = 0;
            errorOffset = NONE;
            tokenEnd = 0;
            step();
            boolean clean = readHead(sheet);
            for (int round = 0; round < MOST_BYTES && clean && tokenStart < length; round++) {
                clean = readStatement(sheet) && readSemicolon();
            }
            return clean;
        }

        private boolean readHead(Sheet sheet) {
            if (!atText("levers")) {
                return fail(NOT_ALLOWED);
            }
            step();
            int levers = numberHere(FEWEST_LEVERS, MOST_LEVERS);
            if (levers == NONE) {
                return false;
            }
            sheet.wipe(levers);
            step();
            return readSemicolon();
        }

        private boolean readSemicolon() {
            if (!atText(";")) {
                return fail(NOT_ALLOWED);
            }
            step();
            return true;
        }

        private boolean readStatement(Sheet sheet) {
            if (isDigit(byteAt(tokenStart))) {
                return readRule(sheet);
            }
            if (atText("route")) {
                return sheet.routeTotal < MOST_ROUTES ? readRoute(sheet) : fail(TOO_MANY);
            }
            if (atText("conflict")) {
                return sheet.conflictTotal < MOST_CONFLICTS ? readConflict(sheet) : fail(TOO_MANY);
            }
            return fail(NOT_ALLOWED);
        }

        private boolean readRule(Sheet sheet) {
            int leverA = numberHere(0, sheet.levers - 1);
            if (leverA == NONE) {
                return false;
            }
            if (sheet.ruleTotal >= MOST_RULES) {
                return fail(TOO_MANY);
            }
            step();
            int kind = verbHere();
            if (kind == NONE) {
                return fail(NOT_ALLOWED);
            }
            step();
            int leverB = numberHere(0, sheet.levers - 1);
            if (leverB == NONE) {
                return false;
            }
            if (leverB == leverA) {
                return fail(REPEATED);
            }
            step();
            int condition = NONE;
            if (atText("when")) {
                step();
                condition = readCondition(sheet, leverA, leverB);
                if (condition == NONE) {
                    return false;
                }
            }
            sheet.insertRule(sheet.ruleTotal, Rule.pack(kind, leverA, leverB, condition));
            return true;
        }

        private int verbHere() {
            if (atText("locks")) {
                return LOCKS;
            }
            if (atText("releases")) {
                return RELEASES;
            }
            return atText("holds") ? HOLDS : NONE;
        }

        /** The condition behind "when"; NONE if it is in error. */
        private int readCondition(Sheet sheet, int leverA, int leverB) {
            int lever = numberHere(0, sheet.levers - 1);
            if (lever == NONE) {
                return NONE;
            }
            if (lever == leverA || lever == leverB) {
                fail(REPEATED);
                return NONE;
            }
            step();
            boolean reversed = atText("reversed");
            if (!reversed && !atText("normal")) {
                fail(NOT_ALLOWED);
                return NONE;
            }
            step();
            return 2 * lever + (reversed ? 1 : 0);
        }

        private boolean readRoute(Sheet sheet) {
            step();
            int levers = 0;
            // Of thirteen levers one is repeated or does not exist, so an error ends the loop before its bound.
            for (int count = 0; count <= MOST_LEVERS && (count == 0 || isDigit(byteAt(tokenStart))); count++) {
                int lever = numberHere(0, sheet.levers - 1);
                if (lever == NONE) {
                    return false;
                }
                if ((levers >> lever & 1) == 1) {
                    return fail(REPEATED);
                }
                levers |= 1 << lever;
                step();
            }
            sheet.insertRoute(levers);
            return true;
        }

        private boolean readConflict(Sheet sheet) {
            step();
            int first = numberHere(0, sheet.routeTotal - 1);
            if (first == NONE) {
                return false;
            }
            step();
            int second = numberHere(0, sheet.routeTotal - 1);
            if (second == NONE) {
                return false;
            }
            if (second == first || sheet.declaresConflict(first, second)) {
                return fail(REPEATED);
            }
            step();
            sheet.insertConflict(first, second);
            return true;
        }

        private boolean fail(int code) {
            errorCode = code;
            errorOffset = tokenStart;
            return false;
        }

        /** The number that the token is; NONE if it is in error. */
        private int numberHere(int lowest, int highest) {
            if (!isDigit(byteAt(tokenStart))) {
                fail(NOT_ALLOWED);
                return NONE;
            }
            int number = 0;
            for (int at = tokenStart; at < tokenEnd && at < tokenStart + MOST_DIGITS; at++) {
                number = 10 * number + byteAt(at) - '0';
            }
            if (tokenEnd - tokenStart > MOST_DIGITS || number < lowest || number > highest) {
                fail(OUT_OF_RANGE);
                return NONE;
            }
            return number;
        }

        private boolean atText(String wanted) {
            if (tokenEnd - tokenStart != wanted.length()) {
                return false;
            }
            for (int at = 0; at < wanted.length(); at++) {
                if (byteAt(tokenStart + at) != wanted.charAt(at)) {
                    return false;
                }
            }
            return true;
        }

        /** Goes to the next token; at the end of the text it is an empty one. */
        private void step() {
            tokenStart = tokenEnd;
            while (tokenStart < length && byteAt(tokenStart) == ' ') {
                tokenStart++;
            }
            boolean word = isLetter(byteAt(tokenStart));
            boolean number = isDigit(byteAt(tokenStart));
            tokenEnd = Math.min(tokenStart + 1, length);
            while (tokenEnd < length && (word && isLetter(byteAt(tokenEnd)) || number && isDigit(byteAt(tokenEnd)))) {
                tokenEnd++;
            }
        }

        private static boolean isLetter(int sign) {
            return sign >= 'a' && sign <= 'z';
        }

        private static boolean isDigit(int sign) {
            return sign >= '0' && sign <= '9';
        }

        /** Behind the text there is a sign that no token begins with. */
        private int byteAt(int at) {
            return at >= 0 && at < length && at < text.length ? text[at] : NONE;
        }
    }
}
