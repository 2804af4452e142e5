import java.util.Arrays;

/** Planners that several tests start from, and what they ask of a whole plan. */
final class Plans {
    private Plans() {
    }

    static int[] pair(int first, int second) {
        return new int[] {first, second};
    }

    static void give(ActionPlanner x, int action, int[] needsBars, int[] addsDrops, int price) {
        Check.due("require " + action, x.require(action, needsBars[0], needsBars[1]), 0);
        Check.due("effect " + action, x.effect(action, addsDrops[0], addsDrops[1], price), 0);
    }

    static void plan(String what, ActionPlanner x, int price, int... row) {
        Check.due(what + ", price", x.price(), price);
        Check.due(what + ", steps", x.steps(), row.length);
        for (int place = 0; place < row.length; place++) {
            Check.due(what + ", planned " + place + " of " + Arrays.toString(row), x.planned(place), row[place]);
        }
        Check.due(what + ", planned behind the end", x.planned(row.length), -1);
    }

    static void noPlan(String what, ActionPlanner x) {
        int before = x.now();
        Check.due(what + ", price", x.price(), -1);
        Check.due(what + ", steps", x.steps(), -1);
        Check.due(what + ", planned 0", x.planned(0), -1);
        Check.due(what + ", advance", x.advance(), -1);
        Check.due(what + ", now", x.now(), before);
    }

    /**
     * Eight actions, from the one with the number first on, add one to the state read as a number:
     * from 0 to 255 there is one way, of 255 actions. Takes 16 calls.
     */
    static ActionPlanner counter(int first, int price) {
        ActionPlanner x = new ActionPlanner();
        for (int bit = 0; bit < 8; bit++) {
            int lower = (1 << bit) - 1;
            give(x, first + bit, pair(lower, 1 << bit), pair(1 << bit, lower), price);
        }
        return x;
    }

    /** Actions 0 to 7 take one from the state read as a number. Takes 16 calls. */
    static ActionPlanner countdown(int price) {
        ActionPlanner x = new ActionPlanner();
        for (int bit = 0; bit < 8; bit++) {
            int lower = (1 << bit) - 1;
            give(x, bit, pair(1 << bit, lower), pair(lower, 1 << bit), price);
        }
        return x;
    }
}
