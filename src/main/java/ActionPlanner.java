public final class ActionPlanner {
    private static final int STATES = 256;
    private static final int SET_MASK = 255;
    private static final int ACTIONS = 10;
    private static final int LEAST_ACTION_PRICE = 1;
    private static final int GREATEST_ACTION_PRICE = 50;
    // Far above the price of any chosen plan, so that a way through a state without a plan never looks cheap.
    private static final int NO_PLAN = 1000000;

    private final boolean[] given = new boolean[ACTIONS];
    private final int[] needsOf = new int[ACTIONS];
    private final int[] barsOf = new int[ACTIONS];
    private final int[] addsOf = new int[ACTIONS];
    private final int[] dropsOf = new int[ACTIONS];
    private final int[] priceOf = new int[ACTIONS];

    // Scratch space of single calls: no call relies on what an earlier one left in them.
    private final int[] leastPrice = new int[STATES];
    private final int[] found = new int[STATES];
    private final boolean[] isFound = new boolean[STATES];

    private int nowState;
    private int goalTrue;
    private int goalFalse;

    public ActionPlanner() {
        nowState = 0;
        goalTrue = 0;
        goalFalse = 0;
    }

    public int require(int action, int needs, int bars) {
        if (action < 0 || action >= ACTIONS) {
            return -1;
        }
        if (!given[action]) {
            given[action] = true;
            // An action that was forgotten must not come back with its old effect.
            addsOf[action] = 0;
            dropsOf[action] = 0;
            priceOf[action] = LEAST_ACTION_PRICE;
        }
        needsOf[action] = needs & SET_MASK;
        barsOf[action] = bars & SET_MASK;
        return 0;
    }

    public int effect(int action, int adds, int drops, int price) {
        if (!isGiven(action)) {
            return -1;
        }
        addsOf[action] = adds & SET_MASK;
        dropsOf[action] = drops & SET_MASK;
        priceOf[action] = allowedPrice(price);
        return 0;
    }

    public int forget(int action) {
        if (!isGiven(action)) {
            return -1;
        }
        given[action] = false;
        return 0;
    }

    public void want(int wantTrue, int wantFalse) {
        goalTrue = wantTrue & SET_MASK;
        goalFalse = wantFalse & SET_MASK;
    }

    public void observe(int state) {
        nowState = state & SET_MASK;
    }

    public int now() {
        return nowState;
    }

    public int price() {
        findLeastPrices();
        return leastPrice[nowState] == NO_PLAN ? -1 : leastPrice[nowState];
    }

    public int steps() {
        findLeastPrices();
        if (leastPrice[nowState] == NO_PLAN) {
            return -1;
        }
        int state = nowState;
        int count = 0;
        // No state comes twice in the chosen plan, so it ends before the bound.
        while (count < STATES) {
            int action = firstAction(state);
            if (action < 0) {
                break;
            }
            state = stateAfter(action, state);
            count++;
        }
        return count;
    }

    public int planned(int place) {
        if (place < 0 || place >= STATES) {
            return -1;
        }
        findLeastPrices();
        int state = nowState;
        for (int passed = 0; passed < place; passed++) {
            int action = firstAction(state);
            if (action < 0) {
                return -1;
            }
            state = stateAfter(action, state);
        }
        return firstAction(state);
    }

    public int advance() {
        findLeastPrices();
        int action = firstAction(nowState);
        if (action >= 0) {
            nowState = stateAfter(action, nowState);
        }
        return action;
    }

    public int act(int action) {
        if (!isGiven(action) || !canBeDone(action, nowState)) {
            return -1;
        }
        nowState = stateAfter(action, nowState);
        return 0;
    }

    public int reachable() {
        for (int state = 0; state < STATES; state++) {
            isFound[state] = false;
        }
        isFound[nowState] = true;
        found[0] = nowState;
        int count = 1;
        for (int place = 0; place < STATES && place < count; place++) {
            count = findStatesAfter(found[place], count);
        }
        return count;
    }

    private int findStatesAfter(int state, int countBefore) {
        int count = countBefore;
        for (int action = 0; action < ACTIONS; action++) {
            if (!given[action] || !canBeDone(action, state)) {
                continue;
            }
            int after = stateAfter(action, state);
            if (!isFound[after] && count < STATES) {
                isFound[after] = true;
                found[count] = after;
                count++;
            }
        }
        return count;
    }

    private boolean isGiven(int action) {
        return action >= 0 && action < ACTIONS && given[action];
    }

    private int allowedPrice(int price) {
        if (price < LEAST_ACTION_PRICE) {
            return LEAST_ACTION_PRICE;
        }
        return price > GREATEST_ACTION_PRICE ? GREATEST_ACTION_PRICE : price;
    }

    private boolean canBeDone(int action, int state) {
        return (state & needsOf[action]) == needsOf[action] && (state & barsOf[action]) == 0;
    }

    private int stateAfter(int action, int state) {
        return (state & ~dropsOf[action]) | addsOf[action];
    }

    private boolean meetsGoal(int state) {
        return (state & goalTrue) == goalTrue && (state & goalFalse) == 0;
    }

    // Prices are found from every state, not from the now state alone: the least action
    // that keeps to the least price can then be told at each step of the chosen plan.
    private void findLeastPrices() {
        for (int state = 0; state < STATES; state++) {
            leastPrice[state] = meetsGoal(state) ? 0 : NO_PLAN;
        }
        // After n rounds every plan of n actions has been weighed, and none needs more than 255.
        boolean changed = true;
        for (int round = 0; round < STATES && changed; round++) {
            changed = lowerPrices();
        }
    }

    private boolean lowerPrices() {
        boolean changed = false;
        for (int state = 0; state < STATES; state++) {
            for (int action = 0; action < ACTIONS; action++) {
                int through = priceThrough(action, state);
                if (through < leastPrice[state]) {
                    leastPrice[state] = through;
                    changed = true;
                }
            }
        }
        return changed;
    }

    private int priceThrough(int action, int state) {
        if (!given[action] || !canBeDone(action, state)) {
            return NO_PLAN;
        }
        int after = stateAfter(action, state);
        return priceOf[action] + leastPrice[after];
    }

    // The first action of the chosen plan from the state; -1 if there is no plan or it has no action.
    private int firstAction(int state) {
        if (leastPrice[state] == NO_PLAN) {
            return -1;
        }
        for (int action = 0; action < ACTIONS; action++) {
            // In a goal state the least price is 0, which no way through an action has.
            if (priceThrough(action, state) == leastPrice[state]) {
                return action;
            }
        }
        return -1;
    }
}
