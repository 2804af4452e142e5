import java.util.ArrayList;
import java.util.List;
import java.util.function.ToIntFunction;

/**
 * The sentences of 'What it is' and 'Terms' that name a boundary, in the order of the document.
 * Each method is one sentence, which stands above it.
 */
public final class TermsTest {
    private static final int CALLS = 512;
    private static final int[] EDGE_SETS = {0, 1, 2, 127, 128, 15, 240, 85, 170, 254, 255};
    private static final int[] HIGH_BITS = {1 << 8, 1 << 9, 1 << 30, 1 << 31, 0x7FFFFF00, 0xFFFFFF00, 0xAAAAAA00};

    public static void main(String[] args) {
        everyKindOfLastCall();
        manyChanges();
        factsAreEight();
        statesAre256();
        nowIsZeroAtTheStart();
        goalIsEmptyAtTheStart();
        actionsAreTen();
        noActionAtTheStart();
        pricesAreOneToFifty();
        doneIfNeedsAndBarsHold();
        afterwards();
        inBothSetsIsTrue();
        rowOfGivenActions();
        rowThatCanBeDone();
        lastStateCounts();
        everyWantedFact();
        wantedBothWays();
        priceIsTheSum();
        leastPriceFirst();
        tieAtEveryPlace();
        rowsOfOtherLengths();
        greatestPriceAndLength();
        noStateTwice();
        noPlanBeginsAnother();
        eightBitsOfNeedsAndBars();
        eightBitsOfAddsAndDrops();
        eightBitsOfTheGoal();
        eightBitsOfTheState();
        Check.end();
    }

    // "An object is used for at most 512 calls after it has been made"

    private static void everyKindOfLastCall() {
        lastCall("require", x -> x.require(9, 0, 0), 0);
        lastCall("require refused", x -> x.require(10, 0, 0), -1);
        lastCall("effect", x -> x.effect(7, 0, 0, 1), 0);
        lastCall("effect refused", x -> x.effect(9, 0, 0, 1), -1);
        lastCall("forget", x -> x.forget(7), 0);
        lastCall("forget refused", x -> x.forget(9), -1);
        lastCall("now", x -> x.now(), 0);
        lastCall("price", x -> x.price(), 12750);
        lastCall("steps", x -> x.steps(), 255);
        lastCall("planned", x -> x.planned(254), 0);
        lastCall("planned refused", x -> x.planned(255), -1);
        lastCall("advance", x -> x.advance(), 0);
        lastCall("act", x -> x.act(0), 0);
        lastCall("act refused", x -> x.act(1), -1);
        lastCall("reachable", x -> x.reachable(), 256);

        ActionPlanner observed = usedBefore(CALLS - 2);
        observed.observe(200);
        Check.due("512 calls: observe, then now", observed.now(), 200);
        ActionPlanner wanting = usedBefore(CALLS - 2);
        wanting.want(3, 252);
        Check.due("512 calls: want, then price", wanting.price(), 150);
        ActionPlanner advanced = usedBefore(CALLS - 2);
        advanced.advance();
        Check.due("512 calls: advance, then now", advanced.now(), 1);
    }

    private static void lastCall(String what, ToIntFunction<ActionPlanner> call, int due) {
        Check.due("512 calls: the last is " + what, call.applyAsInt(usedBefore(CALLS - 1)), due);
    }

    /** A counter of the dearest kind, in the state 0 and wanting 255, that has had so many calls of every kind. */
    private static ActionPlanner usedBefore(int calls) {
        ActionPlanner x = Plans.counter(0, 50);
        x.want(255, 0);
        int had = 17;
        for (; had + 14 <= calls; had += 14) {
            Check.due("512 calls: price", x.price(), 12750);
            Check.due("512 calls: steps", x.steps(), 255);
            Check.due("512 calls: planned", x.planned(127), 7);
            Check.due("512 calls: reachable", x.reachable(), 256);
            Check.due("512 calls: advance", x.advance(), 0);
            Check.due("512 calls: act", x.act(1), 0);
            Check.due("512 calls: now", x.now(), 2);
            Check.due("512 calls: require", x.require(8, 2, 0), 0);
            Check.due("512 calls: effect", x.effect(8, 64, 0, 9), 0);
            Check.due("512 calls: act", x.act(8), 0);
            Check.due("512 calls: forget", x.forget(8), 0);
            Check.due("512 calls: now", x.now(), 66);
            x.observe(0);
            x.want(255, 0);
        }
        for (; had < calls; had++) {
            x.observe(0);
        }
        return x;
    }

    private static void manyChanges() {
        ActionPlanner forgetful = new ActionPlanner();
        for (int call = 0; call < CALLS; call += 2) {
            Check.due("512 calls: require at " + call, forgetful.require(call % 10, 0, 0), 0);
            Check.due("512 calls: forget at " + call, forgetful.forget(call % 10), 0);
        }
        ActionPlanner walker = new ActionPlanner();
        Plans.give(walker, 9, Plans.pair(0, 0), Plans.pair(1, 0), 50);
        walker.want(1, 0);
        for (int call = 3; call + 3 <= CALLS; call += 3) {
            walker.observe(call & 254);
            Check.due("512 calls: advance at " + call, walker.advance(), 9);
            Check.due("512 calls: now at " + call, walker.now(), call & 254 | 1);
        }
    }

    // "FACTS are numbered 0 to 7."

    private static void factsAreEight() {
        for (int fact = 0; fact < 8; fact++) {
            factIsKnown(fact, 1 << fact);
        }
        ActionPlanner x = new ActionPlanner();
        Plans.give(x, 0, Plans.pair(256, 256), Plans.pair(256, 256), 1);
        x.want(256, 256);
        for (int state = 0; state < 256; state += 51) {
            x.observe(state + 256);
            Check.due("facts: there is no fact 8 in a state", x.now(), state);
            Check.due("facts: there is no fact 8 in a goal", x.price(), 0);
            Check.due("facts: there is no fact 8 in needs and bars", x.act(0), 0);
            Check.due("facts: there is no fact 8 in adds and drops", x.now(), state);
            Check.due("facts: nothing to be reached by fact 8", x.reachable(), 1);
        }
    }

    private static void factIsKnown(int fact, int bit) {
        ActionPlanner x = new ActionPlanner();
        x.observe(bit);
        Check.due("facts: bit of fact " + fact, x.now(), bit);
        Plans.give(x, 0, Plans.pair(0, bit), Plans.pair(bit, 0), 1);
        Plans.give(x, 1, Plans.pair(bit, 0), Plans.pair(0, bit), 2);
        Check.due("facts: barred by fact " + fact, x.act(0), -1);
        Check.due("facts: needs fact " + fact, x.act(1), 0);
        Check.due("facts: drops fact " + fact, x.now(), 0);
        Check.due("facts: needs fact " + fact, x.act(1), -1);
        Check.due("facts: reached by fact " + fact, x.reachable(), 2);
        x.observe(255 - bit);
        Check.due("facts: needs nothing but fact " + fact, x.act(1), -1);
        Check.due("facts: not barred by the others of " + fact, x.act(0), 0);
        Check.due("facts: adds fact " + fact, x.now(), 255);
        x.want(0, bit);
        Plans.plan("facts: wants false fact " + fact, x, 2, 1);
        x.observe(255 - bit);
        Plans.plan("facts: is false, fact " + fact, x, 0);
        x.want(bit, 0);
        Plans.plan("facts: wants true fact " + fact, x, 1, 0);
        x.observe(bit);
        Plans.plan("facts: is true, fact " + fact, x, 0);
    }

    // "A STATE [...] is written as a number from 0 to 255"

    private static void statesAre256() {
        ActionPlanner kept = new ActionPlanner();
        for (int state = 0; state < 256; state++) {
            kept.observe(state);
            Check.due("states: now", kept.now(), state);
        }
        for (int state = 0; state < 256; state++) {
            ActionPlanner x = new ActionPlanner();
            x.want(state, 255 - state);
            x.observe(state);
            Check.due("states: the goal is " + state, x.price(), 0);
            for (int fact = 0; fact < 8; fact++) {
                x.observe(state ^ 1 << fact);
                Check.due("states: the goal " + state + " is one fact away", x.price(), -1);
            }
            Plans.give(x, 0, Plans.pair(255 - state, state), Plans.pair(state, 255 - state), 7);
            x.observe(255 - state);
            Plans.plan("states: from the opposite to " + state, x, 7, 0);
            Check.due("states: advance", x.advance(), 0);
            Check.due("states: now", x.now(), state);
        }
    }

    // "The NOW state is 0 at the start."

    private static void nowIsZeroAtTheStart() {
        Check.due("start: now", new ActionPlanner().now(), 0);
        ActionPlanner barred = new ActionPlanner();
        barred.require(0, 0, 255);
        Check.due("start: every fact is false", barred.act(0), 0);
        ActionPlanner wanting = new ActionPlanner();
        wanting.want(0, 255);
        Plans.plan("start: every fact is false", wanting, 0);
        wanting.want(1, 0);
        Plans.noPlan("start: a fact is not true", wanting);
    }

    // "The GOAL is two sets of facts [...]; both are empty at the start."

    private static void goalIsEmptyAtTheStart() {
        for (int half = 0; half < 256; half += 64) {
            ActionPlanner x = new ActionPlanner();
            Plans.give(x, 0, Plans.pair(0, 0), Plans.pair(255, 0), 1);
            Plans.give(x, 1, Plans.pair(0, 0), Plans.pair(0, 255), 1);
            for (int state = half; state < half + 64; state++) {
                x.observe(state);
                Check.due("start: price in " + state, x.price(), 0);
                Check.due("start: steps in " + state, x.steps(), 0);
                Check.due("start: planned in " + state, x.planned(0), -1);
                Check.due("start: advance in " + state, x.advance(), -1);
                Check.due("start: now in " + state, x.now(), state);
            }
        }
    }

    // "ACTIONS are numbered 0 to 9"

    private static void actionsAreTen() {
        for (int action = 0; action < 10; action++) {
            ActionPlanner x = new ActionPlanner();
            x.want(1, 0);
            Plans.give(x, action, Plans.pair(0, 0), Plans.pair(1, 0), 4);
            Plans.plan("actions: " + action, x, 4, action);
            Check.due("actions: advance by " + action, x.advance(), action);
            x.observe(2);
            Check.due("actions: act by " + action, x.act(action), 0);
            Check.due("actions: now after " + action, x.now(), 3);
            Check.due("actions: forget " + action, x.forget(action), 0);
        }
        int[] outside = {-1, 10};
        for (int action : outside) {
            ActionPlanner x = new ActionPlanner();
            Check.due("actions: require " + action, x.require(action, 0, 0), -1);
            Check.due("actions: effect " + action, x.effect(action, 1, 0, 1), -1);
            Check.due("actions: act " + action, x.act(action), -1);
            Check.due("actions: forget " + action, x.forget(action), -1);
        }
        ActionPlanner all = new ActionPlanner();
        for (int action = 0; action < 10; action++) {
            int from = action;
            Plans.give(all, 9 - action, Plans.pair(from, 255 - from), Plans.pair(from + 1, from), action + 1);
        }
        all.want(10, 5);
        Plans.plan("actions: all ten at once", all, 55, 9, 8, 7, 6, 5, 4, 3, 2, 1, 0);
        Check.due("actions: all ten at once, reachable", all.reachable(), 11);
    }

    // "and are each given or not (none is at the start)"

    private static void noActionAtTheStart() {
        ActionPlanner x = new ActionPlanner();
        Check.due("start: reachable", x.reachable(), 1);
        for (int action = 0; action < 10; action++) {
            Check.due("start: effect " + action, x.effect(action, 255, 0, 1), -1);
            Check.due("start: act " + action, x.act(action), -1);
            Check.due("start: forget " + action, x.forget(action), -1);
        }
        for (int fact = 0; fact < 8; fact++) {
            x.want(1 << fact, 0);
            Plans.noPlan("start: nothing makes fact " + fact + " true", x);
        }
        Check.due("start: reachable", x.reachable(), 1);
        Check.due("start: now", x.now(), 0);
    }

    // "and a price from 1 to 50"

    private static void pricesAreOneToFifty() {
        ActionPlanner x = new ActionPlanner();
        x.require(0, 0, 0);
        x.want(1, 0);
        for (int price = -100; price <= 100; price++) {
            x.effect(0, 1, 0, price);
            Check.due("prices: told " + price, x.price(), price < 1 ? 1 : price > 50 ? 50 : price);
        }
        int[] low = {Integer.MIN_VALUE, Integer.MIN_VALUE + 1, -65536, -65535, -256, -255, -129, -128};
        for (int price : low) {
            x.effect(0, 1, 0, price);
            Check.due("prices: told " + price, x.price(), 1);
        }
        int[] high = {127, 128, 255, 256, 257, 65536, 65537, Integer.MAX_VALUE - 1, Integer.MAX_VALUE};
        for (int price : high) {
            x.effect(0, 1, 0, price);
            Check.due("prices: told " + price, x.price(), 50);
        }
    }

    // "The action can be DONE in a state if all its needs are true and all its bars are false in it"

    private static void doneIfNeedsAndBarsHold() {
        for (int needs : EDGE_SETS) {
            for (int bars : EDGE_SETS) {
                int count = 0;
                for (int state = 0; state < 256; state++) {
                    boolean can = (state & needs) == needs && (~state & bars) == bars;
                    canBeDone(needs, bars, state, can);
                    count += can ? 1 : 0;
                }
                int free = 8 - Integer.bitCount(needs | bars);
                Check.due("done: states for " + needs + " " + bars, count, (needs & bars) != 0 ? 0 : 1 << free);
            }
        }
    }

    /** The action sets every fact the other way round, so that a plan can be made of it alone. */
    private static void canBeDone(int needs, int bars, int state, boolean can) {
        ActionPlanner x = new ActionPlanner();
        x.require(6, needs, bars);
        x.effect(6, 255 - state, state, 3);
        x.observe(state);
        x.want(255 - state, state);
        String what = "done: needs " + needs + " bars " + bars + " in " + state;
        Check.due(what + ", price", x.price(), can ? 3 : -1);
        Check.due(what + ", reachable", x.reachable(), can ? 2 : 1);
        Check.due(what + ", act", x.act(6), can ? 0 : -1);
        Check.due(what + ", now", x.now(), can ? 255 - state : state);
    }

    // "the state afterwards is the state without the drops, with the adds"

    private static void afterwards() {
        for (int adds : EDGE_SETS) {
            for (int drops : EDGE_SETS) {
                for (int state : EDGE_SETS) {
                    int after = 0;
                    for (int fact = 0; fact < 8; fact++) {
                        boolean added = (adds >> fact & 1) == 1;
                        boolean kept = (state >> fact & 1) == 1 && (drops >> fact & 1) == 0;
                        after += added || kept ? 1 << fact : 0;
                    }
                    leadsTo(adds, drops, state, after);
                }
            }
        }
    }

    private static void leadsTo(int adds, int drops, int state, int after) {
        String what = "afterwards: adds " + adds + " drops " + drops + " in " + state;
        ActionPlanner x = new ActionPlanner();
        Plans.give(x, 2, Plans.pair(0, 0), Plans.pair(adds, drops), 8);
        x.observe(state);
        x.want(after, 255 - after);
        Check.due(what + ", reachable", x.reachable(), after == state ? 1 : 2);
        Check.due(what + ", price", x.price(), after == state ? 0 : 8);
        Check.due(what + ", advance", x.advance(), after == state ? -1 : 2);
        Check.due(what + ", now", x.now(), after);
        x.observe(state);
        Check.due(what + ", act", x.act(2), 0);
        Check.due(what + ", now", x.now(), after);
    }

    // "(a fact in both sets is true afterwards)"

    private static void inBothSetsIsTrue() {
        for (int fact = 0; fact < 8; fact++) {
            int bit = 1 << fact;
            ActionPlanner x = new ActionPlanner();
            Plans.give(x, 0, Plans.pair(0, 0), Plans.pair(bit, bit), 5);
            x.want(bit, 0);
            Plans.plan("both sets: fact " + fact + " can be made true", x, 5, 0);
            Check.due("both sets: reachable", x.reachable(), 2);
            Check.due("both sets: act on fact " + fact, x.act(0), 0);
            Check.due("both sets: it became true", x.now(), bit);
            x.want(0, bit);
            Plans.noPlan("both sets: fact " + fact + " can't be made false", x);
            Check.due("both sets: act again", x.act(0), 0);
            Check.due("both sets: it stays true", x.now(), bit);
        }
        ActionPlanner all = new ActionPlanner();
        Plans.give(all, 0, Plans.pair(0, 0), Plans.pair(255, 255), 5);
        all.want(255, 0);
        Check.due("both sets: all facts, advance", all.advance(), 0);
        Check.due("both sets: all facts", all.now(), 255);
    }

    // "A PLAN from a state is a row of given actions"

    private static void rowOfGivenActions() {
        ActionPlanner x = new ActionPlanner();
        Plans.give(x, 1, Plans.pair(0, 0), Plans.pair(1, 0), 10);
        Plans.give(x, 2, Plans.pair(1, 0), Plans.pair(2, 0), 10);
        Plans.give(x, 3, Plans.pair(0, 0), Plans.pair(2, 0), 50);
        x.want(2, 0);
        Plans.plan("given: all", x, 20, 1, 2);
        x.forget(1);
        Plans.plan("given: the first is forgotten", x, 50, 3);
        Plans.give(x, 1, Plans.pair(0, 0), Plans.pair(1, 0), 10);
        Plans.plan("given: it is given again", x, 20, 1, 2);
        x.forget(2);
        Plans.plan("given: the second is forgotten", x, 50, 3);
        x.forget(3);
        Plans.noPlan("given: no row is left", x);
        x.want(0, 2);
        Plans.plan("given: the row of no actions", x, 0);
    }

    // "each of which can be done in the state that the ones before lead to"

    private static void rowThatCanBeDone() {
        ActionPlanner x = new ActionPlanner();
        Plans.give(x, 0, Plans.pair(1, 0), Plans.pair(8, 0), 1);
        Plans.give(x, 1, Plans.pair(0, 0), Plans.pair(1, 0), 1);
        x.want(8, 0);
        Plans.plan("in turn: the need comes first", x, 2, 1, 0);
        Plans.give(x, 2, Plans.pair(0, 8), Plans.pair(16, 0), 1);
        x.want(24, 0);
        Plans.plan("in turn: the barred one comes before what bars it", x, 3, 1, 2, 0);
        x.require(2, 0, 1);
        Plans.plan("in turn: and before all", x, 3, 2, 1, 0);
        x.effect(2, 16, 1, 1);
        x.require(2, 8, 0);
        Plans.plan("in turn: and after all", x, 3, 1, 0, 2);
        x.require(2, 8, 1);
        Plans.noPlan("in turn: what is needed brings what is barred", x);
        Plans.give(x, 3, Plans.pair(8, 0), Plans.pair(0, 1), 1);
        Plans.plan("in turn: it is taken away in between", x, 4, 1, 0, 3, 2);
    }

    // "such that the last state has every fact true that the goal wants true and every fact false [...]"

    private static void lastStateCounts() {
        ActionPlanner x = new ActionPlanner();
        Plans.give(x, 0, Plans.pair(1, 0), Plans.pair(2, 1), 6);
        Plans.give(x, 1, Plans.pair(0, 1), Plans.pair(1, 0), 7);
        x.observe(1);
        x.want(3, 0);
        Plans.plan("last state: a wanted fact is lost on the way and won again", x, 13, 0, 1);
        x.want(2, 1);
        Plans.plan("last state: the way ends earlier", x, 6, 0);
        x.observe(0);
        x.want(2, 1);
        Plans.plan("last state: an unwanted fact is true on the way", x, 13, 1, 0);
    }

    private static void everyWantedFact() {
        ActionPlanner up = new ActionPlanner();
        ActionPlanner down = new ActionPlanner();
        for (int fact = 0; fact < 8; fact++) {
            Plans.give(up, fact, Plans.pair(0, 0), Plans.pair(1 << fact, 0), 1);
            Plans.give(down, fact, Plans.pair(0, 0), Plans.pair(0, 1 << fact), 1);
        }
        up.want(255, 0);
        Plans.plan("every wanted: the full set, true", up, 8, 0, 1, 2, 3, 4, 5, 6, 7);
        down.observe(255);
        down.want(0, 255);
        Plans.plan("every wanted: the full set, false", down, 8, 0, 1, 2, 3, 4, 5, 6, 7);
        for (int fact = 0; fact < 8; fact++) {
            up.observe(255 - (1 << fact));
            Plans.plan("every wanted: one is not yet true", up, 1, fact);
            down.observe(1 << fact);
            Plans.plan("every wanted: one is not yet false", down, 1, fact);
            up.forget(fact);
            Plans.noPlan("every wanted: one can't be made true", up);
            down.forget(fact);
            Plans.noPlan("every wanted: one can't be made false", down);
        }
        up.want(0, 0);
        Plans.plan("every wanted: none", up, 0);
    }

    // "(If a fact is wanted both true and false there is no plan.)"

    private static void wantedBothWays() {
        for (int fact = 0; fact < 8; fact++) {
            int bit = 1 << fact;
            ActionPlanner x = new ActionPlanner();
            Plans.give(x, 0, Plans.pair(0, 0), Plans.pair(bit, 0), 1);
            Plans.give(x, 1, Plans.pair(0, 0), Plans.pair(0, bit), 1);
            int[] states = {0, bit, 255 - bit, 255};
            for (int state : states) {
                x.observe(state);
                x.want(bit, bit);
                Plans.noPlan("both ways: fact " + fact + " in " + state, x);
                x.want(bit, 255);
                Plans.noPlan("both ways: fact " + fact + " and others false in " + state, x);
                x.want(255, bit);
                Plans.noPlan("both ways: fact " + fact + " and others true in " + state, x);
                x.want(255, 255);
                Plans.noPlan("both ways: every fact in " + state, x);
                Check.due("both ways: other questions go on", x.reachable(), 2);
                Check.due("both ways: other acts go on", x.act(0), 0);
            }
            x.want(bit, 0);
            Check.due("both ways: a later goal has a plan", x.price(), 0);
        }
    }

    // "Its price is the sum of the prices of its actions."

    private static void priceIsTheSum() {
        for (int length = 0; length <= 8; length++) {
            ActionPlanner x = new ActionPlanner();
            int sum = 0;
            for (int fact = 0; fact < 8; fact++) {
                int price = fact * fact + 1;
                Plans.give(x, fact, Plans.pair((1 << fact) - 1, 0), Plans.pair(1 << fact, 0), price);
                sum += fact < length ? price : 0;
            }
            x.want((1 << length) - 1, 0);
            Check.due("sum: of " + length, x.price(), sum);
            Check.due("sum: steps of " + length, x.steps(), length);
        }
        ActionPlanner twice = new ActionPlanner();
        Plans.give(twice, 0, Plans.pair(1, 0), Plans.pair(2, 1), 6);
        Plans.give(twice, 1, Plans.pair(2, 0), Plans.pair(4, 1), 7);
        Plans.give(twice, 2, Plans.pair(0, 1), Plans.pair(1, 0), 11);
        twice.require(1, 3, 0);
        twice.want(5, 0);
        Plans.plan("sum: an action that comes three times counts three times", twice, 46, 2, 0, 2, 1, 2);
    }

    // "The CHOSEN plan is, of the plans with the least price, the one whose first action has the least number"

    private static void leastPriceFirst() {
        for (int dear = 0; dear < 10; dear++) {
            for (int cheap = 0; cheap < 10; cheap++) {
                if (dear != cheap) {
                    ActionPlanner x = new ActionPlanner();
                    x.want(1, 0);
                    Plans.give(x, dear, Plans.pair(0, 0), Plans.pair(1, 0), 50);
                    Plans.give(x, cheap, Plans.pair(0, 0), Plans.pair(1, 0), 49);
                    Plans.plan("chosen: the cheaper one", x, 49, cheap);
                    x.effect(cheap, 1, 0, 50);
                    Plans.plan("chosen: as dear, the lesser one", x, 50, Math.min(dear, cheap));
                    Check.due("chosen: carried out", x.advance(), Math.min(dear, cheap));
                }
            }
        }
    }

    // "among those the one whose second action has the least number, and so on"

    private static void tieAtEveryPlace() {
        for (int place = 0; place < 255; place++) {
            int bit = Integer.numberOfTrailingZeros(place + 1);
            int lower = (1 << bit) - 1;
            ActionPlanner low = Plans.counter(1, 3);
            low.want(255, 0);
            Plans.give(low, 0, Plans.pair(place, 255 - place), Plans.pair(1 << bit, lower), 3);
            Check.due("tie: a lesser number at " + place, low.planned(place), 0);
            Check.due("tie: price", low.price(), 765);
            Check.due("tie: steps", low.steps(), 255);
            low.effect(0, 1 << bit, lower, 4);
            Check.due("tie: a lesser number too dear at " + place, low.planned(place), bit + 1);
            ActionPlanner high = Plans.counter(0, 3);
            high.want(255, 0);
            Plans.give(high, 9, Plans.pair(place, 255 - place), Plans.pair(1 << bit, lower), 3);
            Check.due("tie: a greater number at " + place, high.planned(place), bit);
            high.effect(9, 1 << bit, lower, 2);
            Check.due("tie: a greater number cheaper at " + place, high.planned(place), 9);
            Check.due("tie: price", high.price(), 764);
        }
        ActionPlanner x = new ActionPlanner();
        Plans.give(x, 3, Plans.pair(0, 3), Plans.pair(1, 0), 2);
        Plans.give(x, 4, Plans.pair(0, 3), Plans.pair(2, 0), 2);
        Plans.give(x, 9, Plans.pair(1, 0), Plans.pair(4, 0), 2);
        Plans.give(x, 0, Plans.pair(2, 0), Plans.pair(4, 0), 2);
        x.want(4, 0);
        Plans.plan("tie: the first place weighs before the second", x, 4, 3, 9);
    }

    private static void rowsOfOtherLengths() {
        ActionPlanner x = new ActionPlanner();
        Plans.give(x, 5, Plans.pair(0, 0), Plans.pair(8, 0), 3);
        Plans.give(x, 4, Plans.pair(0, 1), Plans.pair(1, 0), 1);
        Plans.give(x, 8, Plans.pair(1, 2), Plans.pair(2, 0), 1);
        Plans.give(x, 9, Plans.pair(3, 0), Plans.pair(8, 0), 1);
        x.want(8, 0);
        Plans.plan("lengths: as dear, the longer one starts less", x, 3, 4, 8, 9);
        x.forget(4);
        Plans.give(x, 6, Plans.pair(0, 1), Plans.pair(1, 0), 1);
        Plans.plan("lengths: as dear, the shorter one starts less", x, 3, 5);
        x.effect(5, 8, 0, 4);
        Plans.plan("lengths: the longer one is cheaper", x, 3, 6, 8, 9);
    }

    // "(Its price is below 13000, its length at most 255"

    private static void greatestPriceAndLength() {
        ActionPlanner x = Plans.counter(0, 50);
        x.want(255, 0);
        for (int state = 0; state < 240; state++) {
            x.observe(state);
            Check.due("greatest: price from " + state, x.price(), (255 - state) * 50);
        }
        ActionPlanner y = Plans.counter(2, 51);
        y.want(255, 0);
        Check.due("greatest: price", y.price(), 12750);
        Check.due("greatest: steps", y.steps(), 255);
        for (int place = 0; place < 255; place++) {
            int bit = Integer.numberOfTrailingZeros(place + 1);
            Check.due("greatest: planned " + place, y.planned(place), bit + 2);
        }
        Check.due("greatest: planned 255", y.planned(255), -1);
        Check.due("greatest: planned 256", y.planned(256), -1);
    }

    // "no state comes twice.)"

    private static void noStateTwice() {
        ActionPlanner x = Plans.counter(1, 50);
        x.want(255, 0);
        // Action 0 leads from everywhere back to the start: it would be first by number, but no plan with it is cheapest.
        Plans.give(x, 0, Plans.pair(0, 0), Plans.pair(0, 255), 1);
        List<Integer> seen = new ArrayList<>();
        for (int step = 0; step < 240; step++) {
            int state = x.now();
            Check.isTrue("twice: " + state, !seen.contains(state));
            seen.add(state);
            Check.due("twice: advance from " + state, x.advance(), Integer.numberOfTrailingZeros(state + 1) + 1);
        }
    }

    // "As every action has a price of at least 1, no plan with the least price is the beginning of another one."

    private static void noPlanBeginsAnother() {
        int[] prices = {Integer.MIN_VALUE, -1, 0, 1};
        for (int price : prices) {
            ActionPlanner x = new ActionPlanner();
            Plans.give(x, 0, Plans.pair(0, 0), Plans.pair(0, 0), price);
            Plans.give(x, 1, Plans.pair(0, 0), Plans.pair(2, 0), price);
            Plans.give(x, 2, Plans.pair(0, 0), Plans.pair(1, 0), price);
            Plans.plan("beginning: there already, price told " + price, x, 0);
            x.want(1, 0);
            Plans.plan("beginning: one action and no more, price told " + price, x, 1, 2);
            x.want(3, 0);
            Plans.plan("beginning: two actions and no more, price told " + price, x, 2, 1, 2);
        }
    }

    // "Sets are given as numbers of which only the lowest 8 bits are looked at."

    private static void eightBitsOfNeedsAndBars() {
        for (int high : HIGH_BITS) {
            for (int set : EDGE_SETS) {
                for (int state : EDGE_SETS) {
                    ActionPlanner x = new ActionPlanner();
                    x.observe(state);
                    x.require(0, set | high, 0);
                    Check.due("8 bits: needs " + (set | high) + " in " + state, x.act(0), (state & set) == set ? 0 : -1);
                    x.require(0, 0, set | high);
                    Check.due("8 bits: bars " + (set | high) + " in " + state, x.act(0), (state & set) == 0 ? 0 : -1);
                }
            }
        }
    }

    private static void eightBitsOfAddsAndDrops() {
        for (int high : HIGH_BITS) {
            for (int set : EDGE_SETS) {
                for (int state : EDGE_SETS) {
                    ActionPlanner x = new ActionPlanner();
                    x.require(0, 0, 0);
                    x.effect(0, set | high, 0, 1);
                    x.observe(state);
                    x.act(0);
                    Check.due("8 bits: adds " + (set | high) + " in " + state, x.now(), state | set);
                    x.want(set, 0);
                    x.observe(state);
                    Check.due("8 bits: planned with adds " + (set | high), x.price(), (state & set) == set ? 0 : 1);
                    Check.due("8 bits: reachable with adds", x.reachable(), (state & set) == set ? 1 : 2);
                    x.effect(0, 0, set | high, 1);
                    x.observe(state);
                    x.act(0);
                    Check.due("8 bits: drops " + (set | high) + " in " + state, x.now(), state & 255 - set);
                    x.want(0, set);
                    x.observe(state);
                    Check.due("8 bits: planned with drops " + (set | high), x.price(), (state & set) == 0 ? 0 : 1);
                    Check.due("8 bits: reachable with drops", x.reachable(), (state & set) == 0 ? 1 : 2);
                }
            }
        }
    }

    private static void eightBitsOfTheGoal() {
        for (int high : HIGH_BITS) {
            for (int set : EDGE_SETS) {
                for (int state : EDGE_SETS) {
                    ActionPlanner x = new ActionPlanner();
                    x.observe(state);
                    x.want(set | high, 0);
                    Check.due("8 bits: wants true " + (set | high) + " in " + state, x.price(), (state & set) == set ? 0 : -1);
                    x.want(0, set | high);
                    Check.due("8 bits: wants false " + (set | high) + " in " + state, x.price(), (state & set) == 0 ? 0 : -1);
                    x.want(set | high, 255 - set | high);
                    Check.due("8 bits: high bits wanted both ways", x.price(), state == set ? 0 : -1);
                }
            }
        }
    }

    private static void eightBitsOfTheState() {
        for (int high : HIGH_BITS) {
            for (int state : EDGE_SETS) {
                ActionPlanner x = new ActionPlanner();
                x.observe(state | high);
                Check.due("8 bits: state " + (state | high), x.now(), state);
                x.want(state, 255 - state);
                Plans.plan("8 bits: state " + (state | high) + " is the goal", x, 0);
                Check.due("8 bits: reachable from it", x.reachable(), 1);
                x.require(0, state, 255 - state);
                Check.due("8 bits: act in it", x.act(0), 0);
            }
        }
    }
}
