import java.util.PriorityQueue;
import java.util.Random;
import java.util.TreeSet;

/**
 * Chance runs of 512 calls, each answer held against a model that plans in another way:
 * forward from the now state, with whole rows of actions in the order of the document.
 */
public final class ModelTest {
    private static final int RUNS = 600;
    private static final int CALLS = 512;

    /** Price and row of a way from the now state; of two ways the better one is less. */
    private record Way(int price, String row, int state) implements Comparable<Way> {
        @Override
        public int compareTo(Way other) {
            return price != other.price ? Integer.compare(price, other.price) : row.compareTo(other.row);
        }
    }

    private static final class Model {
        private final int[][] actions = new int[10][];
        private int now = 0;
        private int wantTrue = 0;
        private int wantFalse = 0;

        private boolean given(int action) {
            return action >= 0 && action <= 9 && actions[action] != null;
        }

        private int require(int action, int needs, int bars) {
            if (action < 0 || action > 9) {
                return -1;
            }
            if (actions[action] == null) {
                actions[action] = new int[] {0, 0, 0, 0, 1};
            }
            actions[action][0] = needs;
            actions[action][1] = bars;
            return 0;
        }

        private int effect(int action, int adds, int drops, int price) {
            if (!given(action)) {
                return -1;
            }
            actions[action][2] = adds;
            actions[action][3] = drops;
            actions[action][4] = Math.max(1, Math.min(50, price));
            return 0;
        }

        private int forget(int action) {
            if (!given(action)) {
                return -1;
            }
            actions[action] = null;
            return 0;
        }

        /** The state afterwards, fact by fact; -1 if the action can't be done. */
        private int after(int action, int state) {
            int[] a = actions[action];
            int result = 0;
            for (int fact = 0; fact < 8; fact++) {
                boolean is = (state >> fact & 1) == 1;
                if ((a[0] >> fact & 1) == 1 && !is || (a[1] >> fact & 1) == 1 && is) {
                    return -1;
                }
                boolean becomes = (a[2] >> fact & 1) == 1 || is && (a[3] >> fact & 1) == 0;
                result += becomes ? 1 << fact : 0;
            }
            return result;
        }

        private boolean wanted(int state) {
            for (int fact = 0; fact < 8; fact++) {
                int is = state >> fact & 1;
                if ((wantTrue >> fact & 1) == 1 && is == 0 || (wantFalse >> fact & 1) == 1 && is == 1) {
                    return false;
                }
            }
            return true;
        }

        /** The first way taken from the queue that ends in a wanted state is the chosen plan. */
        private Way chosen() {
            PriorityQueue<Way> open = new PriorityQueue<>();
            boolean[] closed = new boolean[256];
            open.add(new Way(0, "", now));
            while (!open.isEmpty()) {
                Way way = open.poll();
                if (closed[way.state]) {
                    continue;
                }
                closed[way.state] = true;
                if (wanted(way.state)) {
                    return way;
                }
                for (int action = 0; action < 10; action++) {
                    int next = given(action) ? after(action, way.state) : -1;
                    if (next >= 0) {
                        open.add(new Way(way.price + actions[action][4], way.row + action, next));
                    }
                }
            }
            return null;
        }

        private int planned(int place) {
            Way way = chosen();
            return way == null || place < 0 || place >= way.row.length() ? -1 : way.row.charAt(place) - '0';
        }

        private int advance() {
            int action = planned(0);
            if (action >= 0) {
                now = after(action, now);
            }
            return action;
        }

        private int act(int action) {
            int next = given(action) ? after(action, now) : -1;
            if (next < 0) {
                return -1;
            }
            now = next;
            return 0;
        }

        private int reachable() {
            TreeSet<Integer> seen = new TreeSet<>();
            TreeSet<Integer> edge = new TreeSet<>();
            edge.add(now);
            while (!edge.isEmpty()) {
                int state = edge.pollFirst();
                seen.add(state);
                for (int action = 0; action < 10; action++) {
                    int next = given(action) ? after(action, state) : -1;
                    if (next >= 0 && !seen.contains(next)) {
                        edge.add(next);
                    }
                }
            }
            return seen.size();
        }
    }

    private static Random chance;

    public static void main(String[] args) {
        for (int run = 0; run < RUNS; run++) {
            chance = new Random(run);
            oneRun(run);
        }
        Check.end();
    }

    private static void oneRun(int run) {
        ActionPlanner x = new ActionPlanner();
        Model m = new Model();
        int width = 1 + run % 4;
        int dearest = run % 3 == 0 ? 60 : run % 3 == 1 ? 3 : 1;
        for (int call = 0; call < CALLS; call++) {
            oneCall("run " + run + " call " + call, x, m, width, dearest);
        }
    }

    private static void oneCall(String at, ActionPlanner x, Model m, int width, int dearest) {
        int action = atTimesExtreme(chance.nextInt(10) == 0 ? chance.nextInt(16) - 3 : chance.nextInt(10));
        int first = set(width);
        int second = set(width);
        int price = atTimesExtreme(chance.nextInt(dearest + 2));
        int place = atTimesExtreme(chance.nextInt(12) - 1);
        switch (chance.nextInt(16)) {
            case 0, 1 -> Check.due(at + " require", x.require(action, first, second), m.require(action, first, second));
            case 2, 3, 4 -> Check.due(at + " effect", x.effect(action, first, second, price),
                m.effect(action, first, second, price));
            case 5 -> {
                if (chance.nextInt(4) == 0) {
                    Check.due(at + " forget", x.forget(action), m.forget(action));
                } else {
                    Check.due(at + " now", x.now(), m.now);
                }
            }
            case 6 -> {
                x.want(first, second);
                m.wantTrue = first;
                m.wantFalse = second;
            }
            case 7 -> {
                x.observe(first);
                m.now = first & 255;
            }
            case 8 -> Check.due(at + " now", x.now(), m.now);
            case 9 -> {
                Way way = m.chosen();
                Check.due(at + " price", x.price(), way == null ? -1 : way.price);
            }
            case 10 -> {
                Way way = m.chosen();
                Check.due(at + " steps", x.steps(), way == null ? -1 : way.row.length());
            }
            case 11, 12 -> Check.due(at + " planned", x.planned(place), m.planned(place));
            case 13 -> Check.due(at + " advance", x.advance(), m.advance());
            case 14 -> Check.due(at + " act", x.act(action), m.act(action));
            default -> Check.due(at + " reachable", x.reachable(), m.reachable());
        }
    }

    /** The number, or now and then one that no call may stumble over. */
    private static int atTimesExtreme(int number) {
        int[] extremes = {Integer.MIN_VALUE, Integer.MIN_VALUE + 1, -256, 255, 256, Integer.MAX_VALUE - 1, Integer.MAX_VALUE};
        return chance.nextInt(40) == 0 ? extremes[chance.nextInt(extremes.length)] : number;
    }

    /** A set of at most width facts, at times with bits above the lowest eight. */
    private static int set(int width) {
        int set = 0;
        for (int i = chance.nextInt(width + 1); i > 0; i--) {
            set |= 1 << chance.nextInt(8);
        }
        return chance.nextInt(8) == 0 ? set | chance.nextInt() << 8 : set;
    }
}
