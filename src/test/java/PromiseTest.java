/** For each promise of the document: ordinary inputs, the edges that it names, and wrong inputs. */
public final class PromiseTest {
    private static final int[] NO_ACTIONS = {-1, 10, 11, 255, 256, -10, Integer.MIN_VALUE, Integer.MAX_VALUE};

    public static void main(String[] args) {
        newObject();
        objectsAreApart();
        requireGivesWithPlainEffect();
        requireKeepsTheEffectOfAGivenAction();
        requireReplacesNeedsAndBars();
        requireLooksAtEightBits();
        requireRefuses();
        effectSetsAddsDropsPrice();
        effectKeepsPricesInRange();
        effectLooksAtEightBits();
        effectRefuses();
        forgetTakesAway();
        forgetRefuses();
        wantSetsTheGoal();
        wantContradiction();
        wantLooksAtEightBits();
        observeAndNow();
        priceOfPlans();
        priceOfTheDearestPlan();
        stepsOfPlans();
        plannedTakesTheLeastRow();
        plannedPlaces();
        askingChangesNothing();
        advanceCarriesOut();
        advanceRefuses();
        advanceAfterTheWorldTurned();
        actDoes();
        actRefuses();
        reachableCounts();
        lastCallsOfAnObject();
        Check.end();
    }

    // Promise 1

    private static void newObject() {
        ActionPlanner x = new ActionPlanner();
        Check.due("1: now", x.now(), 0);
        Check.due("1: reachable", x.reachable(), 1);
        Plans.plan("1: the empty goal holds", x, 0);
        Check.due("1: advance", x.advance(), -1);
        for (int action = 0; action < 10; action++) {
            Check.due("1: act " + action, x.act(action), -1);
            Check.due("1: effect " + action, x.effect(action, 1, 0, 1), -1);
            Check.due("1: forget " + action, x.forget(action), -1);
        }
        ActionPlanner y = new ActionPlanner();
        for (int state = 255; state > 0; state--) {
            y.observe(state);
            Check.due("1: the empty goal holds in " + state, y.price(), 0);
        }
    }

    private static void objectsAreApart() {
        ActionPlanner x = new ActionPlanner();
        ActionPlanner y = new ActionPlanner();
        Plans.give(x, 0, Plans.pair(0, 0), Plans.pair(1, 0), 3);
        x.want(1, 0);
        x.observe(4);
        Check.due("1: the other's price", y.price(), 0);
        Check.due("1: the other's now", y.now(), 0);
        Check.due("1: the other's action", y.forget(0), -1);
        Plans.plan("1: own plan", x, 3, 0);
    }

    // Promise 2

    private static void requireGivesWithPlainEffect() {
        for (int action = 0; action < 10; action++) {
            ActionPlanner x = new ActionPlanner();
            x.observe(5);
            Check.due("2: require " + action, x.require(action, 5, 10), 0);
            Check.due("2: act", x.act(action), 0);
            Check.due("2: no adds and no drops", x.now(), 5);
            Check.due("2: reachable", x.reachable(), 1);
            x.want(8, 0);
            Plans.noPlan("2: an action without effect", x);
        }
    }

    private static void requireKeepsTheEffectOfAGivenAction() {
        ActionPlanner x = new ActionPlanner();
        Plans.give(x, 4, Plans.pair(1, 0), Plans.pair(6, 1), 17);
        x.want(6, 1);
        Plans.noPlan("2: needs not met", x);
        Check.due("2: require again", x.require(4, 0, 1), 0);
        Plans.plan("2: effect and price kept", x, 17, 4);
        Check.due("2: act", x.act(4), 0);
        Check.due("2: now", x.now(), 6);
        x.observe(1);
        Plans.noPlan("2: now barred", x);
    }

    private static void requireReplacesNeedsAndBars() {
        ActionPlanner x = new ActionPlanner();
        x.require(2, 1, 2);
        x.require(2, 4, 8);
        int[] states = {0, 1, 4, 5, 6, 7, 12, 13};
        int[] answers = {-1, -1, 0, 0, 0, 0, -1, -1};
        for (int i = 0; i < states.length; i++) {
            x.observe(states[i]);
            Check.due("2: replaced, act in " + states[i], x.act(2), answers[i]);
        }
        x.require(2, 1, 1);
        for (int state = 0; state < 4; state++) {
            x.observe(state);
            Check.due("2: needed and barred, act in " + state, x.act(2), -1);
        }
    }

    private static void requireLooksAtEightBits() {
        ActionPlanner x = new ActionPlanner();
        x.require(0, 0x7FFFFF01, 0xFFFFFF02);
        x.observe(1);
        Check.due("2: high bits left out", x.act(0), 0);
        x.observe(3);
        Check.due("2: low bar kept", x.act(0), -1);
        x.observe(0);
        Check.due("2: low need kept", x.act(0), -1);
        x.require(0, -1, 256);
        x.observe(255);
        Check.due("2: -1 is all eight facts", x.act(0), 0);
        x.observe(127);
        Check.due("2: one of eight is missing", x.act(0), -1);
    }

    private static void requireRefuses() {
        ActionPlanner x = new ActionPlanner();
        Plans.give(x, 0, Plans.pair(0, 0), Plans.pair(1, 0), 2);
        Plans.give(x, 9, Plans.pair(1, 0), Plans.pair(2, 0), 3);
        x.want(2, 0);
        for (int action : NO_ACTIONS) {
            Check.due("2: require " + action, x.require(action, 255, 255), -1);
        }
        Plans.plan("2: nothing changed", x, 5, 0, 9);
        for (int action = 1; action < 9; action++) {
            Check.due("2: still not given " + action, x.forget(action), -1);
        }
    }

    // Promise 3

    private static void effectSetsAddsDropsPrice() {
        ActionPlanner x = new ActionPlanner();
        x.require(6, 0, 0);
        Check.due("3: effect", x.effect(6, 0b0110, 0b0011, 9), 0);
        x.observe(0b1001);
        x.want(0b0110, 0);
        Plans.plan("3: price", x, 9, 6);
        Check.due("3: act", x.act(6), 0);
        Check.due("3: a fact in both sets is true afterwards", x.now(), 0b1110);
        Check.due("3: effect again", x.effect(6, 0, 0b0100, 4), 0);
        Check.due("3: act", x.act(6), 0);
        Check.due("3: the old adds are gone", x.now(), 0b1010);
        x.observe(255);
        Check.due("3: act", x.act(6), 0);
        Check.due("3: the old drops are gone", x.now(), 0b11111011);
        x.require(6, 1, 2);
        x.effect(6, 4, 0, 1);
        x.observe(2);
        Check.due("3: needs and bars are kept", x.act(6), -1);
        x.observe(1);
        Check.due("3: needs and bars are kept", x.act(6), 0);
    }

    private static void effectKeepsPricesInRange() {
        int[] told = {Integer.MIN_VALUE, -1, 0, 1, 2, 49, 50, 51, 256, Integer.MAX_VALUE};
        int[] kept = {1, 1, 1, 1, 2, 49, 50, 50, 50, 50};
        ActionPlanner x = new ActionPlanner();
        x.require(0, 0, 0);
        x.want(1, 0);
        for (int i = 0; i < told.length; i++) {
            Check.due("3: effect with price " + told[i], x.effect(0, 1, 0, told[i]), 0);
            Check.due("3: kept price of " + told[i], x.price(), kept[i]);
        }
    }

    private static void effectLooksAtEightBits() {
        ActionPlanner x = new ActionPlanner();
        Plans.give(x, 3, Plans.pair(0, 0), Plans.pair(0x7FFFFF04, 0xFFFFFF03), 1);
        x.observe(131);
        Check.due("3: act", x.act(3), 0);
        Check.due("3: high bits left out", x.now(), 132);
        x.effect(3, -1, 0, 1);
        x.act(3);
        Check.due("3: -1 is all eight facts", x.now(), 255);
        x.effect(3, 256, -256, 1);
        x.act(3);
        Check.due("3: no low bit, no change", x.now(), 255);
        x.effect(3, 0, -1, 1);
        x.act(3);
        Check.due("3: all eight dropped", x.now(), 0);
    }

    private static void effectRefuses() {
        ActionPlanner x = new ActionPlanner();
        Plans.give(x, 0, Plans.pair(0, 0), Plans.pair(1, 0), 2);
        Plans.give(x, 9, Plans.pair(1, 0), Plans.pair(2, 0), 3);
        x.want(2, 0);
        for (int action : NO_ACTIONS) {
            Check.due("3: effect " + action, x.effect(action, 2, 0, 1), -1);
        }
        for (int action = 1; action < 9; action++) {
            Check.due("3: effect of one not given " + action, x.effect(action, 2, 0, 1), -1);
        }
        Plans.plan("3: nothing changed", x, 5, 0, 9);
        Check.due("3: require", x.require(5, 0, 0), 0);
        Plans.plan("3: a refused effect is not kept for later", x, 5, 0, 9);
        x.forget(5);
        Check.due("3: effect of a forgotten one", x.effect(5, 2, 0, 1), -1);
        Check.due("3: it is not given by that", x.act(5), -1);
    }

    // Promise 4

    private static void forgetTakesAway() {
        ActionPlanner x = new ActionPlanner();
        for (int action = 0; action < 10; action++) {
            Plans.give(x, action, Plans.pair(0, 1), Plans.pair(1, 0), 10 + action);
        }
        x.want(1, 0);
        for (int action = 0; action < 10; action++) {
            Plans.plan("4: cheapest left", x, 10 + action, action);
            Check.due("4: forget " + action, x.forget(action), 0);
            Check.due("4: act of a forgotten one", x.act(action), -1);
            Check.due("4: forget again", x.forget(action), -1);
        }
        Plans.noPlan("4: all are forgotten", x);
        Check.due("4: reachable", x.reachable(), 1);
        Check.due("4: require anew", x.require(7, 0, 0), 0);
        Plans.noPlan("4: the old adds do not come back", x);
        Check.due("4: act", x.act(7), 0);
        Check.due("4: now", x.now(), 0);

        ActionPlanner y = new ActionPlanner();
        Plans.give(y, 2, Plans.pair(0, 0), Plans.pair(0, 4), 30);
        y.forget(2);
        y.require(2, 0, 0);
        y.observe(4);
        y.act(2);
        Check.due("4: the old drops do not come back", y.now(), 4);
    }

    private static void forgetRefuses() {
        ActionPlanner x = new ActionPlanner();
        Plans.give(x, 0, Plans.pair(0, 0), Plans.pair(1, 0), 2);
        Plans.give(x, 9, Plans.pair(1, 0), Plans.pair(2, 0), 3);
        x.want(2, 0);
        for (int action : NO_ACTIONS) {
            Check.due("4: forget " + action, x.forget(action), -1);
        }
        Check.due("4: forget one never given", x.forget(5), -1);
        Plans.plan("4: nothing changed", x, 5, 0, 9);
    }

    // Promise 5

    private static void wantSetsTheGoal() {
        ActionPlanner x = new ActionPlanner();
        Plans.give(x, 0, Plans.pair(0, 0), Plans.pair(1, 0), 2);
        Plans.give(x, 1, Plans.pair(0, 0), Plans.pair(0, 2), 3);
        x.observe(2);
        x.want(1, 0);
        Plans.plan("5: true alone", x, 2, 0);
        x.want(0, 2);
        Plans.plan("5: false alone", x, 3, 1);
        x.want(1, 2);
        Plans.plan("5: both", x, 5, 0, 1);
        x.want(3, 0);
        Plans.plan("5: the old goal is gone", x, 2, 0);
        x.want(2, 1);
        Plans.plan("5: it holds now", x, 0);
        x.want(0, 0);
        Plans.plan("5: the empty goal", x, 0);
        x.want(4, 0);
        Plans.noPlan("5: nothing makes it true", x);
        Check.due("5: the now state is left alone", x.now(), 2);
    }

    private static void wantContradiction() {
        ActionPlanner x = new ActionPlanner();
        Plans.give(x, 0, Plans.pair(0, 0), Plans.pair(1, 0), 1);
        Plans.give(x, 1, Plans.pair(0, 0), Plans.pair(0, 1), 1);
        x.want(1, 1);
        Plans.noPlan("5: true and false, from 0", x);
        x.observe(1);
        Plans.noPlan("5: true and false, from 1", x);
        x.want(128, 129 + 2);
        x.observe(128);
        Plans.noPlan("5: one fact of several is wanted both ways", x);
    }

    private static void wantLooksAtEightBits() {
        ActionPlanner x = new ActionPlanner();
        x.want(256, 256);
        Plans.plan("5: the ninth bit is no contradiction", x, 0);
        x.observe(255);
        x.want(-1, -256);
        Plans.plan("5: -1 is all eight true", x, 0);
        x.observe(254);
        Plans.noPlan("5: one of eight is missing", x);
        x.observe(0);
        x.want(-256, -1);
        Plans.plan("5: -1 is all eight false", x, 0);
        x.observe(128);
        Plans.noPlan("5: one of eight is true", x);
    }

    // Promises 6 and 7

    private static void observeAndNow() {
        ActionPlanner x = new ActionPlanner();
        int[] told = {0, 1, 170, 255, 256, 257, 511, -1, -256, -255, Integer.MAX_VALUE, Integer.MIN_VALUE, 0x12345678};
        int[] kept = {0, 1, 170, 255, 0, 1, 255, 255, 0, 1, 255, 0, 0x78};
        for (int i = 0; i < told.length; i++) {
            x.observe(told[i]);
            Check.due("6: observe " + told[i], x.now(), kept[i]);
            Check.due("7: now again", x.now(), kept[i]);
        }
        Plans.give(x, 0, Plans.pair(0, 0), Plans.pair(1, 0), 6);
        x.want(1, 0);
        x.observe(2);
        Plans.plan("6: from the state told", x, 6, 0);
        x.observe(3);
        Plans.plan("6: from another one", x, 0);
        x.observe(2);
        Plans.plan("6: and back", x, 6, 0);
    }

    // Promise 8

    private static void priceOfPlans() {
        ActionPlanner x = new ActionPlanner();
        Plans.give(x, 0, Plans.pair(0, 0), Plans.pair(8, 0), 50);
        x.want(8, 0);
        Check.due("8: the only way", x.price(), 50);
        Plans.give(x, 1, Plans.pair(0, 1), Plans.pair(1, 0), 16);
        Plans.give(x, 2, Plans.pair(1, 2), Plans.pair(2, 0), 16);
        Plans.give(x, 3, Plans.pair(2, 0), Plans.pair(8, 0), 16);
        Plans.plan("8: three cheap ones beat a dear one", x, 48, 1, 2, 3);
        x.effect(3, 8, 0, 19);
        Plans.plan("8: one dear one beats three", x, 50, 0);
        x.effect(3, 8, 0, 18);
        Plans.plan("8: as dear, the least number first", x, 50, 0);
        x.observe(1);
        Plans.plan("8: from the middle", x, 34, 2, 3);
        x.observe(3);
        Plans.plan("8: from near the end", x, 18, 3);
        x.observe(8);
        Plans.plan("8: at the goal", x, 0);
        x.observe(0);
        x.require(0, 64, 0);
        x.require(2, 1, 1);
        Plans.noPlan("8: no way", x);
    }

    private static void priceOfTheDearestPlan() {
        ActionPlanner up = Plans.counter(0, 50);
        up.want(255, 0);
        Check.due("8: up, price", up.price(), 12750);
        Check.due("9: up, steps", up.steps(), 255);
        Check.due("10: up, first", up.planned(0), 0);
        Check.due("10: up, middle", up.planned(127), 7);
        Check.due("10: up, last", up.planned(254), 0);
        Check.due("10: up, behind the last", up.planned(255), -1);
        Check.due("10: up, far behind", up.planned(256), -1);
        Check.due("13: up", up.reachable(), 256);
        for (int state = 0; state < 255; state++) {
            Check.due("11: up from " + state, up.advance(), Integer.numberOfTrailingZeros(state + 1));
        }
        Check.due("11: up, there", up.advance(), -1);
        Check.due("11: up, now", up.now(), 255);

        ActionPlanner down = Plans.countdown(50);
        down.observe(255);
        down.want(0, 255);
        Check.due("8: down, price", down.price(), 12750);
        Check.due("9: down, steps", down.steps(), 255);
        for (int place = 0; place < 255; place++) {
            Check.due("10: down " + place, down.planned(place), Integer.numberOfTrailingZeros(255 - place));
        }
        Check.due("10: down, behind the last", down.planned(255), -1);
        Check.due("13: down", down.reachable(), 256);
    }

    // Promise 9

    private static void stepsOfPlans() {
        ActionPlanner x = Plans.counter(0, 1);
        for (int goal = 0; goal < 100; goal++) {
            x.want(goal, 255 - goal);
            Check.due("9: steps to " + goal, x.steps(), goal);
            Check.due("8: price to " + goal, x.price(), goal);
        }
        x.want(0, 0);
        Check.due("9: the empty goal", x.steps(), 0);
        x.observe(1);
        x.want(0, 255);
        Plans.noPlan("9: there is no way back", x);

        ActionPlanner y = new ActionPlanner();
        Plans.give(y, 5, Plans.pair(0, 0), Plans.pair(1, 0), 4);
        Plans.give(y, 2, Plans.pair(0, 2), Plans.pair(2, 0), 2);
        Plans.give(y, 3, Plans.pair(2, 0), Plans.pair(1, 0), 2);
        y.want(1, 0);
        Plans.plan("9: the chosen one, not the shortest", y, 4, 2, 3);
        y.effect(5, 1, 0, 3);
        Plans.plan("9: the cheapest one", y, 3, 5);
    }

    // Promise 10

    private static void plannedTakesTheLeastRow() {
        ActionPlanner x = new ActionPlanner();
        for (int action = 0; action < 8; action++) {
            Plans.give(x, 9 - action, Plans.pair(0, 1 << action), Plans.pair(1 << action, 0), 5);
        }
        x.want(255, 0);
        Plans.plan("10: all orders cost the same", x, 40, 2, 3, 4, 5, 6, 7, 8, 9);
        x.effect(2, 128, 255, 5);
        Plans.plan("10: the one that undoes the others comes first", x, 40, 2, 3, 4, 5, 6, 7, 8, 9);
        x.effect(2, 128, 0, 5);
        x.effect(9, 1, 254, 5);
        Plans.plan("10: the first must be 9", x, 40, 9, 2, 3, 4, 5, 6, 7, 8);

        ActionPlanner y = new ActionPlanner();
        Plans.give(y, 0, Plans.pair(0, 1), Plans.pair(1, 0), 1);
        Plans.give(y, 1, Plans.pair(0, 2), Plans.pair(2, 0), 1);
        Plans.give(y, 8, Plans.pair(1, 4), Plans.pair(4, 0), 1);
        Plans.give(y, 2, Plans.pair(2, 4), Plans.pair(4, 0), 1);
        y.want(4, 0);
        Plans.plan("10: the first place weighs more than the second", y, 2, 0, 8);
        Plans.give(y, 7, Plans.pair(1, 4), Plans.pair(4, 0), 1);
        Plans.plan("10: then the second place", y, 2, 0, 7);
        Plans.give(y, 0, Plans.pair(0, 0), Plans.pair(0, 0), 1);
        Plans.plan("10: an action without effect is in no chosen plan", y, 2, 1, 2);
    }

    private static void plannedPlaces() {
        ActionPlanner x = Plans.counter(0, 3);
        x.want(4, 3);
        Plans.plan("10: to four", x, 12, 0, 1, 0, 2);
        int[] noPlaces = {-1, -2, Integer.MIN_VALUE, 4, 5, 254, 255, 256, 257, 512, Integer.MAX_VALUE};
        for (int place : noPlaces) {
            Check.due("10: planned " + place, x.planned(place), -1);
        }
        x.want(1, 1);
        for (int place = -1; place < 5; place++) {
            Check.due("10: no plan, planned " + place, x.planned(place), -1);
        }
        x.want(0, 0);
        for (int place = -1; place < 5; place++) {
            Check.due("10: empty plan, planned " + place, x.planned(place), -1);
        }
    }

    private static void askingChangesNothing() {
        ActionPlanner x = Plans.counter(0, 2);
        x.observe(6);
        x.want(9, 0);
        for (int i = 0; i < 5; i++) {
            Plans.plan("8 to 10: asked again", x, 6, 0, 3, 0);
            Check.due("13: asked again", x.reachable(), 250);
            Check.due("7: asked again", x.now(), 6);
        }
    }

    // Promise 11

    private static void advanceCarriesOut() {
        ActionPlanner x = new ActionPlanner();
        Plans.give(x, 4, Plans.pair(0, 1), Plans.pair(1, 0), 5);
        Plans.give(x, 6, Plans.pair(1, 0), Plans.pair(6, 1), 5);
        x.observe(128);
        x.want(6, 1);
        Check.due("11: first", x.advance(), 4);
        Check.due("11: now", x.now(), 129);
        Plans.plan("11: the rest", x, 5, 6);
        Check.due("11: second", x.advance(), 6);
        Check.due("11: now", x.now(), 134);
        Check.due("11: nothing is left", x.advance(), -1);
        Check.due("11: now", x.now(), 134);
        Check.due("11: actions stay given", x.forget(4), 0);
        Check.due("11: actions stay given", x.forget(6), 0);
    }

    private static void advanceRefuses() {
        ActionPlanner x = new ActionPlanner();
        x.observe(77);
        Check.due("11: the empty goal", x.advance(), -1);
        Check.due("11: now", x.now(), 77);
        Plans.give(x, 0, Plans.pair(0, 0), Plans.pair(0, 255), 1);
        Check.due("11: the goal holds already", x.advance(), -1);
        Check.due("11: now", x.now(), 77);
        x.want(128, 0);
        Plans.noPlan("11: no plan though an action can be done", x);
        x.want(1, 1);
        Plans.noPlan("11: wanted both ways", x);
    }

    private static void advanceAfterTheWorldTurned() {
        ActionPlanner x = Plans.counter(0, 1);
        x.want(8, 7);
        Check.due("11: from 0", x.advance(), 0);
        x.observe(6);
        Check.due("11: from 6", x.advance(), 0);
        Check.due("11: now", x.now(), 7);
        x.forget(3);
        Plans.noPlan("11: the way is taken away", x);
        Plans.give(x, 9, Plans.pair(2, 0), Plans.pair(8, 6), 20);
        Plans.give(x, 8, Plans.pair(8, 0), Plans.pair(0, 1), 20);
        Plans.plan("11: made anew", x, 40, 9, 8);
        Check.due("11: anew", x.advance(), 9);
        Check.due("11: now", x.now(), 9);
        x.want(64, 0);
        Check.due("11: another goal", x.advance(), 1);
        Check.due("11: now", x.now(), 10);
    }

    // Promise 12

    private static void actDoes() {
        for (int state = 0; state < 256; state++) {
            ActionPlanner x = new ActionPlanner();
            Plans.give(x, 3, Plans.pair(0b0011, 0b1100), Plans.pair(0b0100, 0b0001), 7);
            boolean can = (state & 15) == 3;
            x.observe(state);
            Check.due("12: act in " + state, x.act(3), can ? 0 : -1);
            Check.due("12: now after " + state, x.now(), can ? state + 3 : state);
        }
    }

    private static void actRefuses() {
        ActionPlanner x = new ActionPlanner();
        Plans.give(x, 0, Plans.pair(0, 0), Plans.pair(1, 0), 1);
        Plans.give(x, 9, Plans.pair(0, 0), Plans.pair(2, 0), 1);
        x.observe(64);
        for (int action : NO_ACTIONS) {
            Check.due("12: act " + action, x.act(action), -1);
        }
        for (int action = 1; action < 9; action++) {
            Check.due("12: act of one not given " + action, x.act(action), -1);
        }
        Check.due("12: now", x.now(), 64);
        x.want(0, 64);
        Check.due("12: the goal has no say", x.act(9), 0);
        Check.due("12: now", x.now(), 66);
        x.forget(9);
        x.observe(0);
        Check.due("12: act of a forgotten one", x.act(9), -1);
        Check.due("12: now", x.now(), 0);
    }

    // Promise 13

    private static void reachableCounts() {
        ActionPlanner x = new ActionPlanner();
        Check.due("13: no action", x.reachable(), 1);
        for (int fact = 0; fact < 8; fact++) {
            Plans.give(x, fact, Plans.pair(0, 0), Plans.pair(1 << fact, 0), 50);
            Check.due("13: free facts", x.reachable(), 2 << fact);
        }
        for (int fact = 0; fact < 8; fact++) {
            x.observe((2 << fact) - 1);
            Check.due("13: fewer are left", x.reachable(), 128 >> fact);
        }
        x.observe(0);
        x.want(0, 0);
        Check.due("13: the goal has no say", x.reachable(), 256);
        x.want(1, 1);
        Check.due("13: the goal has no say", x.reachable(), 256);
        x.forget(7);
        Check.due("13: a forgotten one", x.reachable(), 128);
        x.require(6, 1, 2);
        // Fact 6 is to be had in the company of fact 0 alone; fact 1 may follow it.
        Check.due("13: needs and bars", x.reachable(), 64 + 32);
        x.require(6, 128, 0);
        Check.due("13: needs that nothing makes true", x.reachable(), 64);
        Check.due("13: the now state stays", x.now(), 0);

        ActionPlanner ring = new ActionPlanner();
        Plans.give(ring, 0, Plans.pair(0, 3), Plans.pair(1, 0), 1);
        Plans.give(ring, 1, Plans.pair(1, 0), Plans.pair(2, 1), 1);
        Plans.give(ring, 2, Plans.pair(2, 0), Plans.pair(0, 2), 1);
        Check.due("13: a ring", ring.reachable(), 3);
        ring.observe(2);
        Check.due("13: the ring from elsewhere", ring.reachable(), 3);
        ring.observe(3);
        Check.due("13: into the ring from outside", ring.reachable(), 4);
    }

    // What it is: an object serves 512 calls

    private static void lastCallsOfAnObject() {
        ActionPlanner x = Plans.counter(0, 50);
        x.want(255, 0);
        for (int call = 18; call < 512; call++) {
            Check.due("call " + call, x.price(), 12750);
        }
        Check.due("call 512", x.steps(), 255);
    }
}
