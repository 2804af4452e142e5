import java.util.ArrayList;
import java.util.LinkedHashMap;
import java.util.List;
import java.util.Map;
import java.util.function.Supplier;
import java.util.function.ToIntFunction;

/**
 * Every kind of call that answers -1, in several worlds: its answer, and that whatever is asked or done
 * afterwards is answered as on an object that never had the call.
 */
public final class RefusalTest {
    private static final int[] OUTSIDE = {-1, 10, -2, 11, 16, 255, 256, 266, -246, -256, 65536, -65527,
        Integer.MIN_VALUE, Integer.MIN_VALUE + 9, Integer.MAX_VALUE, Integer.MAX_VALUE - 9};
    private static final int[] SETS = {0, 1, 128, 255, -1, Integer.MIN_VALUE};

    /** How an object comes to be as it is, and the actions that are given in it. */
    private record World(String name, Supplier<ActionPlanner> maker, List<Integer> given) {
    }

    public static void main(String[] args) {
        for (World world : worlds()) {
            List<List<Integer>> due = new ArrayList<>();
            for (int look = 0; look < looks(); look++) {
                due.add(look(look, world.maker.get()));
            }
            calls(world).forEach((name, call) -> refused(world, name, call, due));
        }
        answersAfterRefusals();
        refusedAgainAndAgain();
        Check.end();
    }

    private static List<World> worlds() {
        return List.of(
            new World("new", ActionPlanner::new, List.of()),
            new World("on the way", RefusalTest::onTheWay, List.of(0, 3, 4, 9)),
            new World("at the goal", RefusalTest::atTheGoal, List.of(0, 3, 4, 9)),
            new World("without a plan", RefusalTest::withoutAPlan, List.of(0, 3, 4, 9)),
            new World("wanted both ways", RefusalTest::wantedBothWays, List.of(0, 3, 4, 9)),
            new World("all given", RefusalTest::allGiven, List.of(0, 1, 2, 3, 4, 5, 6, 7, 8, 9)));
    }

    /** Action 5 has been forgotten, action 4 has been forgotten and given again, the others not given were never. */
    private static ActionPlanner onTheWay() {
        ActionPlanner x = new ActionPlanner();
        Plans.give(x, 5, Plans.pair(0, 1), Plans.pair(16, 32), 20);
        Plans.give(x, 4, Plans.pair(1, 0), Plans.pair(64, 0), 30);
        x.forget(5);
        x.forget(4);
        x.require(4, 0, 0);
        Plans.give(x, 0, Plans.pair(2, 4), Plans.pair(1, 2), 7);
        Plans.give(x, 3, Plans.pair(0, 128), Plans.pair(2, 0), 50);
        Plans.give(x, 9, Plans.pair(1, 0), Plans.pair(8, 16), 1);
        x.observe(96);
        x.want(8, 4);
        return x;
    }

    private static ActionPlanner atTheGoal() {
        ActionPlanner x = onTheWay();
        x.observe(8);
        return x;
    }

    private static ActionPlanner withoutAPlan() {
        ActionPlanner x = onTheWay();
        x.observe(4);
        return x;
    }

    private static ActionPlanner wantedBothWays() {
        ActionPlanner x = onTheWay();
        x.want(8, 12);
        return x;
    }

    private static ActionPlanner allGiven() {
        ActionPlanner x = new ActionPlanner();
        for (int action = 0; action < 10; action++) {
            int bit = 1 << action % 8;
            Plans.give(x, action, Plans.pair(bit, 255 - bit), Plans.pair(255 & bit << 1, bit), action + 1);
        }
        x.want(128, 0);
        return x;
    }

    /** The calls that are refused in the world, by what they are. */
    private static Map<String, ToIntFunction<ActionPlanner>> calls(World world) {
        Map<String, ToIntFunction<ActionPlanner>> calls = new LinkedHashMap<>();
        for (int action : OUTSIDE) {
            for (int set : SETS) {
                calls.put("require " + action + " " + set, x -> x.require(action, set, 0));
                calls.put("require " + action + " 0 " + set, x -> x.require(action, 0, set));
            }
            notGiven(calls, action);
        }
        for (int action = 0; action < 10; action++) {
            if (!world.given.contains(action)) {
                notGiven(calls, action);
            } else {
                cannotBeDone(world, calls, action);
            }
        }
        if (world.maker.get().price() < 1) {
            calls.put("advance", x -> x.advance());
            calls.put("planned 0", x -> x.planned(0));
        }
        if (world.maker.get().price() < 0) {
            calls.put("price", x -> x.price());
            calls.put("steps", x -> x.steps());
        }
        int[] noPlaces = {Integer.MIN_VALUE, -1, 255, 256, Integer.MAX_VALUE};
        for (int place : noPlaces) {
            calls.put("planned " + place, x -> x.planned(place));
        }
        return calls;
    }

    private static void notGiven(Map<String, ToIntFunction<ActionPlanner>> calls, int action) {
        int[] prices = {Integer.MIN_VALUE, 0, 1, 50, 51, Integer.MAX_VALUE};
        for (int price : prices) {
            calls.put("effect " + action + " 255 0 " + price, x -> x.effect(action, 255, 0, price));
            calls.put("effect " + action + " 0 -1 " + price, x -> x.effect(action, 0, -1, price));
        }
        calls.put("forget " + action, x -> x.forget(action));
        calls.put("act " + action, x -> x.act(action));
    }

    private static void cannotBeDone(World world, Map<String, ToIntFunction<ActionPlanner>> calls, int action) {
        if (world.maker.get().act(action) < 0) {
            calls.put("act " + action, x -> x.act(action));
        }
    }

    private static void refused(World world, String name, ToIntFunction<ActionPlanner> call, List<List<Integer>> due) {
        for (int look = 0; look < looks(); look++) {
            ActionPlanner x = world.maker.get();
            Check.due(world.name + ": " + name, call.applyAsInt(x), -1);
            List<Integer> got = look(look, x);
            boolean same = got.equals(due.get(look));
            Check.isTrue(world.name + ": " + name + ", then look " + look, same);
            if (!same) {
                Check.tell("look " + look + " saw " + got + ", due is " + due.get(look));
            }
        }
    }

    private static int looks() {
        return 15;
    }

    /** What an object answers from here on, looked at in one of several ways, each of which uses the object up. */
    private static List<Integer> look(int look, ActionPlanner x) {
        List<Integer> seen = new ArrayList<>();
        switch (look) {
            case 10 -> plans(x, seen);
            case 11 -> walk(x, seen);
            case 12 -> goal(x, seen);
            case 13 -> givenAnew(x, seen);
            case 14 -> forgotten(x, seen);
            default -> action(look, x, seen);
        }
        return seen;
    }

    /** The one action by itself: where it can be done, what it does, and its price. */
    private static void action(int action, ActionPlanner x, List<Integer> seen) {
        seen.add(x.now());
        for (int other = 0; other < 10; other++) {
            if (other != action) {
                seen.add(x.forget(other));
            }
        }
        int[] states = {0, 1, 2, 4, 8, 16, 32, 64, 128, 254, 253, 251, 247, 239, 223, 191, 127, 255, 3, 96};
        for (int state : states) {
            x.observe(state);
            seen.add(x.act(action));
            int after = x.now();
            seen.add(after);
            x.observe(state);
            x.want(after, 255 - after);
            seen.add(x.price());
            seen.add(x.reachable());
        }
    }

    private static void plans(ActionPlanner x, List<Integer> seen) {
        seen.add(x.now());
        int[] states = {x.now(), 0, 1, 2, 3, 16, 128, 255};
        for (int state : states) {
            x.observe(state);
            seen.add(x.price());
            seen.add(x.steps());
            for (int place = -1; place < 10; place++) {
                seen.add(x.planned(place));
            }
            seen.add(x.reachable());
        }
    }

    private static void walk(ActionPlanner x, List<Integer> seen) {
        for (int step = 0; step < 12; step++) {
            seen.add(x.now());
            seen.add(x.price());
            seen.add(x.advance());
        }
    }

    private static void goal(ActionPlanner x, List<Integer> seen) {
        for (int action = 0; action < 10; action++) {
            x.forget(action);
        }
        seen.add(x.price());
        for (int fact = 0; fact < 8; fact++) {
            int[] states = {1 << fact, 8 | 1 << fact, 255 - (1 << fact), 251 - (251 & 1 << fact)};
            for (int state : states) {
                x.observe(state);
                seen.add(x.price());
            }
        }
    }

    /** An action that is given by this require must come without an effect. */
    private static void givenAnew(ActionPlanner x, List<Integer> seen) {
        for (int action = 0; action < 10; action++) {
            seen.add(x.require(action, 0, 0));
            x.observe(0);
            seen.add(x.act(action));
            seen.add(x.now());
            x.observe(255);
            seen.add(x.act(action));
            seen.add(x.now());
        }
        seen.add(x.reachable());
    }

    private static void forgotten(ActionPlanner x, List<Integer> seen) {
        for (int action = 0; action < 10; action++) {
            seen.add(x.forget(action));
            seen.add(x.reachable());
            seen.add(x.price());
        }
    }

    /** The answers themselves in one of the worlds, so that the looks above are not merely alike. */
    private static void answersAfterRefusals() {
        ActionPlanner x = onTheWay();
        for (int action : OUTSIDE) {
            Check.due("told: require", x.require(action, 255, 255), -1);
            Check.due("told: effect", x.effect(action, 8, 0, 1), -1);
            Check.due("told: forget", x.forget(action), -1);
            Check.due("told: act", x.act(action), -1);
        }
        Check.due("told: effect of a forgotten one", x.effect(5, 8, 0, 1), -1);
        Check.due("told: act of a forgotten one", x.act(5), -1);
        Check.due("told: act that lacks a need", x.act(0), -1);
        Check.due("told: now", x.now(), 96);
        Plans.plan("told", x, 58, 3, 0, 9);
        Check.due("told: first", x.advance(), 3);
        Check.due("told: now", x.now(), 98);
        Check.due("told: act that lacks a need", x.act(9), -1);
        x.observe(98 + 4);
        Check.due("told: act that is barred", x.act(0), -1);
        Check.due("told: now", x.now(), 102);
        Check.due("told: advance without a plan", x.advance(), -1);
        Check.due("told: now", x.now(), 102);
        x.observe(98);
        Check.due("told: second", x.advance(), 0);
        Check.due("told: now", x.now(), 97);
        Check.due("told: third", x.advance(), 9);
        Check.due("told: now", x.now(), 105);
        Check.due("told: advance at the goal", x.advance(), -1);
        Check.due("told: now", x.now(), 105);
        Check.due("told: reachable", x.reachable(), 2);
    }

    /** Hundreds of refused calls leave no trace either. */
    private static void refusedAgainAndAgain() {
        ActionPlanner x = onTheWay();
        for (int turn = 0; turn < 90; turn++) {
            Check.due("again: require", x.require(OUTSIDE[turn % OUTSIDE.length], -1, -1), -1);
            Check.due("again: effect", x.effect(5, -1, 0, turn), -1);
            Check.due("again: forget", x.forget(5), -1);
            Check.due("again: act", x.act(0), -1);
            Check.due("again: planned", x.planned(3 + turn), -1);
        }
        Plans.plan("again", x, 58, 3, 0, 9);
        Check.due("again: now", x.now(), 96);
    }
}
