import java.util.List;
import java.util.Set;
import java.util.TreeSet;

/** Compares every answer about many frames with those of the plain frame. */
public final class AgainstPlainFrameTest {
    public static void main(String[] args) {
        for (int seed = 1; seed <= 500; seed++) {
            Numbers numbers = new Numbers(seed);
            PlainFrame plain = someFrame(numbers, 2 + numbers.below(5), 13);
            FrameInUse frame = new FrameInUse(plain.sheet());
            compareAll(frame, plain, "seed " + seed + " " + plain.sheet());
        }
        for (int seed = 1; seed <= 150; seed++) {
            work(new Numbers(1000 + seed), seed);
        }
        compareBigFrame();
        Check.finish();
    }

    private static PlainFrame someFrame(Numbers numbers, int levers, int ruleBound) {
        PlainFrame plain = new PlainFrame();
        plain.levers = levers;
        int rules = numbers.below(ruleBound);
        for (int tries = 0; tries < 3 * rules && plain.rules.size() < rules; tries++) {
            addSomeRule(plain, numbers);
        }
        int routes = numbers.below(6);
        for (int route = 0; route < routes; route++) {
            Set<Integer> chosen = new TreeSet<>(Set.of(numbers.below(levers)));
            for (int more = numbers.below(3); more > 0; more--) {
                chosen.add(numbers.below(levers));
            }
            plain.routes.add(chosen);
        }
        for (int tries = 0; tries < 6 && routes > 1; tries++) {
            int a = numbers.below(routes);
            int b = numbers.below(routes);
            boolean known = plain.conflicts.stream().anyMatch(
                    pair -> pair[0] == a && pair[1] == b || pair[0] == b && pair[1] == a);
            if (a != b && !known) {
                plain.conflicts.add(new int[] {a, b});
            }
        }
        return plain;
    }

    private static void addSomeRule(PlainFrame plain, Numbers numbers) {
        int a = numbers.below(plain.levers);
        int b = numbers.below(plain.levers);
        int condition = numbers.below(2) == 0 ? -1 : numbers.below(2 * plain.levers);
        if (a != b && (condition < 0 || condition / 2 != a && condition / 2 != b)) {
            plain.rules.add(new PlainFrame.Rule(numbers.below(3), a, b, condition));
        }
    }

    private static void compareAll(FrameInUse frame, PlainFrame plain, String name) {
        compareContents(frame, plain, name);
        compareStates(frame, plain, name);
        compareRoutes(frame, plain, name);
        compareTests(frame, plain, name);
        compareMerging(frame, plain, name);
    }

    private static void compareContents(FrameInUse frame, PlainFrame plain, String name) {
        Check.due(name + " leverCount", frame.ask().leverCount(), plain.levers);
        Check.due(name + " ruleCount", frame.ask().ruleCount(), plain.rules.size());
        Check.due(name + " routeCount", frame.ask().routeCount(), plain.routes.size());
        Check.due(name + " conflictCount", frame.ask().conflictCount(), plain.conflicts.size());
        Check.due(name + " currentState", frame.ask().currentState(), plain.state);
        for (int rule = 0; rule < plain.rules.size(); rule++) {
            PlainFrame.Rule due = plain.rules.get(rule);
            Check.due(name + " ruleKind " + rule, frame.ask().ruleKind(rule), due.kind());
            Check.due(name + " ruleLevers " + rule, frame.ask().ruleLevers(rule), 100 * due.a() + due.b());
            Check.due(name + " ruleCondition " + rule, frame.ask().ruleCondition(rule), due.condition());
        }
        for (int route = 0; route < plain.routes.size(); route++) {
            int levers = plain.routes.get(route).stream().mapToInt(lever -> 1 << lever).sum();
            Check.due(name + " routeLevers " + route, frame.ask().routeLevers(route), levers);
        }
    }

    private static void compareStates(FrameInUse frame, PlainFrame plain, String name) {
        int states = 1 << plain.levers;
        Check.due(name + " reachableCount", frame.ask().reachableCount(), plain.reachable().size());
        for (int state = 0; state < states; state++) {
            Check.due(name + " isLegal " + state, frame.ask().isLegal(state), plain.legal(state) ? 1 : 0);
            Check.due(name + " freeLevers " + state, frame.ask().freeLevers(state), plain.freeLevers(state));
            for (int lever = 0; lever < plain.levers; lever++) {
                Check.due(name + " blockingRule " + state + "," + lever,
                        frame.ask().blockingRule(state, lever), plain.blockingRule(state, lever));
            }
        }
        Numbers numbers = new Numbers(states);
        for (int tries = 0; tries < 12; tries++) {
            int from = numbers.below(states);
            int to = numbers.below(states);
            Check.due(name + " distance " + from + "," + to, frame.ask().distance(from, to), plain.distance(from, to));
            Check.due(name + " nextMove " + from + "," + to, frame.ask().nextMove(from, to), plain.nextMove(from, to));
            Check.due(name + " distance 0," + to, frame.ask().distance(0, to), plain.distance(0, to));
            Check.due(name + " nextMove 0," + to, frame.ask().nextMove(0, to), plain.nextMove(0, to));
        }
        for (int lever = 0; lever < plain.levers; lever++) {
            Check.due(name + " excludedLevers " + lever, frame.ask().excludedLevers(lever), plain.excludedLevers(lever));
        }
    }

    private static void compareRoutes(FrameInUse frame, PlainFrame plain, String name) {
        for (int route = 0; route < plain.routes.size(); route++) {
            Check.due(name + " settingState " + route, frame.ask().settingState(route), plain.settingState(route));
            Check.due(name + " settingMoves " + route, frame.ask().settingMoves(route), plain.settingMoves(route));
            for (int other = 0; other < plain.routes.size(); other++) {
                Check.due(name + " jointStates " + route + "," + other,
                        frame.ask().jointStates(route, other), plain.jointStates(route, other));
            }
        }
        Check.due(name + " unprotectedConflicts", frame.ask().unprotectedConflicts(), plain.unprotectedConflicts());
        for (int conflict = 0; conflict < plain.conflicts.size(); conflict++) {
            Check.due(name + " proposedLock " + conflict, frame.ask().proposedLock(conflict), plain.proposedLock(conflict));
        }
        List<Integer> locks = plain.completion();
        Check.due(name + " completionSize", frame.ask().completionSize(), locks == null ? -1 : locks.size());
        for (int index = 0; index < 9; index++) {
            int due = locks == null || index >= locks.size() ? -1 : locks.get(index);
            Check.due(name + " completionLock " + index, frame.ask().completionLock(index), due);
        }
        Check.due(name + " largestRouteSet", frame.ask().largestRouteSet(), plain.largestRouteSet());
        Check.due(name + " farthestState", frame.ask().farthestState(), plain.farthestState());
    }

    private static void compareTests(FrameInUse frame, PlainFrame plain, String name) {
        for (int rule = 0; rule < plain.rules.size(); rule++) {
            Check.due(name + " isImplied " + rule, frame.ask().isImplied(rule), plain.isImplied(rule) ? 1 : 0);
            List<Integer> test = plain.test(rule);
            Check.due(name + " testLength " + rule, frame.ask().testLength(rule), test.isEmpty() ? -1 : test.size());
            for (int index = 0; index < test.size() + 2; index++) {
                Check.due(name + " testMove " + rule + "," + index,
                        frame.ask().testMove(rule, index), index < test.size() ? test.get(index) : -1);
            }
        }
        Check.due(name + " reducedSheet", frame.ask().reducedSheet(), plain.reducedSheet());
    }

    private static void compareMerging(FrameInUse frame, PlainFrame plain, String name) {
        for (int a = 0; a < plain.levers; a++) {
            for (int b = 0; b < plain.levers; b++) {
                if (a == b) {
                    continue;
                }
                PlainFrame merged = plain.merged(a, b);
                Check.due(name + " isMergeable " + a + "," + b,
                        frame.ask().isMergeable(a, b), plain.accepts(merged) ? 1 : 0);
                Check.due(name + " mergedReachableCount " + a + "," + b,
                        frame.ask().mergedReachableCount(a, b), merged.reachable().size());
            }
        }
        Check.due(name + " leversAfterMerging", frame.ask().leversAfterMerging(), plain.leversAfterMerging());
    }

    /** Works the frame for a while; what was found before a change must not be answered after it. */
    private static void work(Numbers numbers, int seed) {
        PlainFrame plain = someFrame(numbers, 2 + numbers.below(4), 8);
        FrameInUse frame = new FrameInUse(plain.sheet());
        for (int step = 0; step < 60; step++) {
            String name = "work " + seed + " step " + step;
            int what = numbers.below(10);
            if (what < 4) {
                int lever = numbers.below(plain.levers + 2) - 1;
                Check.due(name + " moveLever " + lever, frame.change(used -> used.moveLever(lever)), plain.moveLever(lever));
            } else if (what < 7) {
                int kind = numbers.below(4 + numbers.below(2)) - numbers.below(2);
                int a = numbers.below(plain.levers + 1);
                int b = numbers.below(plain.levers + 1) - numbers.below(2);
                int condition = numbers.below(2 * plain.levers + 4) - 3;
                Check.due(name + " addRule " + kind + "," + a + "," + b + "," + condition,
                        frame.change(used -> used.addRule(kind, a, b, condition)), plain.addRule(kind, a, b, condition));
            } else if (what < 8) {
                int rule = numbers.below(plain.rules.size() + 2) - 1;
                Check.due(name + " removeRule " + rule, frame.change(used -> used.removeRule(rule)), plain.removeRule(rule));
            } else {
                Check.due(name + " undo", frame.change(InterlockingFrame::undo), plain.undo());
            }
            Check.due(name + " reachableCount", frame.ask().reachableCount(), plain.reachable().size());
            Check.due(name + " completionSize", frame.ask().completionSize(),
                    plain.completion() == null ? -1 : plain.completion().size());
            Check.due(name + " leversAfterMerging", frame.ask().leversAfterMerging(), plain.leversAfterMerging());
            compareContents(frame, plain, name);
        }
        compareAll(frame, plain, "after work " + seed);
    }

    /** A frame of twelve levers that are used in all parts of a state. */
    private static void compareBigFrame() {
        for (int seed = 1; seed <= 4; seed++) {
            Numbers numbers = new Numbers(5000 + seed);
            PlainFrame plain = someFrame(numbers, 12, 2);
            while (plain.rules.size() < 20) {
                addSomeRule(plain, numbers);
            }
            FrameInUse frame = new FrameInUse(plain.sheet());
            String name = "big frame " + seed;
            compareContents(frame, plain, name);
            compareStates(frame, plain, name);
            compareTests(frame, plain, name);
            compareRoutes(frame, plain, name);
            Check.due(name + " mergedReachableCount 3,9",
                    frame.ask().mergedReachableCount(3, 9), plain.merged(3, 9).reachable().size());
            Check.due(name + " mergedReachableCount 11,5",
                    frame.ask().mergedReachableCount(11, 5), plain.merged(11, 5).reachable().size());
        }
    }
}
