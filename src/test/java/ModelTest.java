import java.util.ArrayList;
import java.util.List;

/**
 * Long runs of calls, each answer held against a model that follows the document's words: it
 * walks every way up to a sum far above a least one, and compares times and sums in pairs.
 */
public final class ModelTest {
    private static final int RUNS = 240;
    private static final int CALLS = 512;
    private static final int WRONG_ONES_SHOWN = 20;

    private static long seed;

    public static void main(String[] args) {
        int wrong = 0;
        for (int run = 0; run < RUNS && wrong < WRONG_ONES_SHOWN; run++) {
            wrong += wrongAnswers(run);
        }
        System.out.println(RUNS + " runs, " + wrong + " wrong");
        if (wrong != 0) {
            System.exit(1);
        }
    }

    private static int wrongAnswers(int run) {
        seed = 1000003L * run + 17;
        FrontierWatch x = new FrontierWatch();
        Model model = new Model();
        // Some runs hold few lines and tokens, some are full; some have additions of 0 and 1 only.
        int growth = 2 + run % 5;
        int additions = 1 + run % 4;
        for (int i = 0; i < CALLS; i++) {
            int[] call = nextCall(model, growth, additions);
            int got = answer(x, call);
            int want = model.answer(call);
            if (got != want) {
                System.out.println("run " + run + ", call " + i + ": " + name(call) + " answered "
                    + got + ", due is " + want);
                return 1;
            }
        }
        return 0;
    }

    private static int next(int bound) {
        seed = seed * 6364136223846793005L + 1442695040888963407L;
        return (int) ((seed >>> 33) % bound);
    }

    private static int number(int bound) {
        if (next(60) != 0) {
            return next(bound);
        }
        int[] wrong = {-1, bound, bound + 1, -bound, Integer.MIN_VALUE, Integer.MAX_VALUE};
        return wrong[next(wrong.length)];
    }

    /** A call: which one, and its arguments. */
    private static int[] nextCall(Model model, int growth, int additions) {
        int kind = next(20);
        if (kind < growth) {
            return next(3) == 0
                ? new int[] {0, number(7), number(7), next(30) == 0 ? number(4) : next(additions),
                    next(30) == 0 ? number(4) : next(additions)}
                : new int[] {2, number(7), number(16), number(16)};
        }
        if (kind == 7) {
            return next(3) == 0 ? new int[] {1, number(13)} : aboutToken(model, 3);
        }
        if (kind < 10) {
            return passCall(model);
        }
        if (kind < 12) {
            return new int[] {5, number(7), number(16), number(16)};
        }
        if (kind < 14) {
            return aboutToken(model, 6);
        }
        if (kind < 16) {
            return new int[] {7, number(7)};
        }
        if (kind < 18) {
            return new int[] {8, number(7), number(6)};
        }
        return new int[] {9, number(7), number(7)};
    }

    private static int[] aboutToken(Model model, int method) {
        if (model.tokens.isEmpty() || next(6) == 0) {
            return new int[] {method, number(7), number(16), number(16)};
        }
        int[] token = model.tokens.get(next(model.tokens.size()));
        return new int[] {method, token[0], token[1], token[2]};
    }

    private static int[] passCall(Model model) {
        int line = number(12);
        for (int[] token : model.tokens) {
            boolean begins = line >= 0 && line < model.lines.size()
                && model.lines.get(line)[0] == token[0];
            if (begins && next(3) != 0) {
                return new int[] {4, line, token[1], token[2]};
            }
        }
        return new int[] {4, line, number(16), number(16)};
    }

    private static int answer(FrontierWatch x, int[] c) {
        switch (c[0]) {
            case 0: return x.link(c[1], c[2], c[3], c[4]);
            case 1: return x.unlink(c[1]);
            case 2: return x.put(c[1], c[2], c[3]);
            case 3: return x.take(c[1], c[2], c[3]);
            case 4: return x.pass(c[1], c[2], c[3]);
            case 5: return x.possible(c[1], c[2], c[3]);
            case 6: return x.ready(c[1], c[2], c[3]);
            case 7: return x.front(c[1]);
            case 8: return x.frontAt(c[1], c[2]);
            default: return x.shortest(c[1], c[2]);
        }
    }

    private static String name(int[] call) {
        String[] names = {"link", "unlink", "put", "take", "pass", "possible", "ready", "front",
            "frontAt", "shortest"};
        StringBuilder text = new StringBuilder(names[call[0]]).append('(');
        for (int i = 1; i < call.length; i++) {
            text.append(i == 1 ? "" : ", ").append(call[i]);
        }
        return text.append(')').toString();
    }

    private static final class Model {
        // Ways go on to twice the sum that the program holds to be enough, so as not to lean on that.
        private static final int SUMS = 37;

        final List<int[]> lines = new ArrayList<>();
        final List<int[]> tokens = new ArrayList<>();
        // By the place where ways begin: the ends and sums of all ways, as place, p, q.
        private final boolean[][][][] ways = new boolean[7][][][];

        int answer(int[] c) {
            switch (c[0]) {
                case 0: return link(c);
                case 1: return unlink(c[1]);
                case 2: return put(c);
                case 3: return take(c);
                case 4: return pass(c);
                case 5: return !timed(c) ? -1 : anyReaches(c[1], c[2], c[3]) ? 1 : 0;
                case 6: return ready(c);
                case 7: return !in(c[1], 7) ? -1 : front(c[1]).size();
                case 8: return frontAt(c[1], c[2]);
                default: return shortest(c[1], c[2]);
            }
        }

        private static boolean in(int number, int bound) {
            return number >= 0 && number < bound;
        }

        private static boolean timed(int[] c) {
            return in(c[1], 7) && in(c[2], 16) && in(c[3], 16);
        }

        private int link(int[] c) {
            if (!in(c[1], 7) || !in(c[2], 7) || !in(c[3], 4) || !in(c[4], 4) || lines.size() == 12) {
                return -1;
            }
            lines.add(new int[] {c[1], c[2], c[3], c[4]});
            forgetWays();
            return lines.size();
        }

        private int unlink(int line) {
            if (!in(line, lines.size())) {
                return -1;
            }
            lines.remove(line);
            forgetWays();
            return lines.size();
        }

        private int put(int[] c) {
            if (!timed(c) || tokens.size() == 20) {
                return -1;
            }
            tokens.add(new int[] {c[1], c[2], c[3]});
            return tokens.size();
        }

        private int take(int[] c) {
            int at = indexOf(c[1], c[2], c[3]);
            if (at < 0) {
                return -1;
            }
            tokens.remove(at);
            return tokens.size();
        }

        private int pass(int[] c) {
            if (!in(c[1], lines.size())) {
                return -1;
            }
            int[] line = lines.get(c[1]);
            int at = indexOf(line[0], c[2], c[3]);
            if (at < 0) {
                return -1;
            }
            if (c[2] + line[2] > 15 || c[3] + line[3] > 15) {
                return -2;
            }
            tokens.remove(at);
            tokens.add(new int[] {line[1], c[2] + line[2], c[3] + line[3]});
            return 0;
        }

        private int ready(int[] c) {
            if (!timed(c)) {
                return -1;
            }
            if (indexOf(c[1], c[2], c[3]) < 0) {
                return 0;
            }
            for (int[] token : tokens) {
                boolean same = token[0] == c[1] && token[1] == c[2] && token[2] == c[3];
                if (!same && reaches(token, c[1], c[2], c[3])) {
                    return 0;
                }
            }
            return 1;
        }

        private int frontAt(int place, int index) {
            if (!in(place, 7)) {
                return -1;
            }
            List<int[]> front = front(place);
            for (int[] time : front) {
                int lesser = 0;
                for (int[] other : front) {
                    lesser += other[0] < time[0] ? 1 : 0;
                }
                if (lesser == index) {
                    return 16 * time[0] + time[1];
                }
            }
            return -1;
        }

        private int shortest(int from, int to) {
            if (!in(from, 7) || !in(to, 7)) {
                return -1;
            }
            return least(waysFrom(from)[to]).size();
        }

        private int indexOf(int place, int a, int b) {
            for (int i = 0; i < tokens.size(); i++) {
                int[] token = tokens.get(i);
                if (token[0] == place && token[1] == a && token[2] == b) {
                    return i;
                }
            }
            return -1;
        }

        private List<int[]> front(int place) {
            boolean[][] reached = new boolean[16][16];
            for (int a = 0; a < 16; a++) {
                for (int b = 0; b < 16; b++) {
                    reached[a][b] = anyReaches(place, a, b);
                }
            }
            return least(reached);
        }

        /** The pairs that are set, and of which no other set one is at most it. */
        private static List<int[]> least(boolean[][] set) {
            List<int[]> found = new ArrayList<>();
            for (int a = 0; a < set.length; a++) {
                for (int b = 0; b < set[a].length; b++) {
                    if (set[a][b] && !hasLesser(set, a, b)) {
                        found.add(new int[] {a, b});
                    }
                }
            }
            return found;
        }

        private static boolean hasLesser(boolean[][] set, int a, int b) {
            for (int u = 0; u <= a; u++) {
                for (int v = 0; v <= b; v++) {
                    if (set[u][v] && (u != a || v != b)) {
                        return true;
                    }
                }
            }
            return false;
        }

        private boolean anyReaches(int place, int a, int b) {
            for (int[] token : tokens) {
                if (reaches(token, place, a, b)) {
                    return true;
                }
            }
            return false;
        }

        private boolean reaches(int[] token, int place, int a, int b) {
            boolean[][] sums = waysFrom(token[0])[place];
            for (int p = 0; token[1] + p <= a; p++) {
                for (int q = 0; token[2] + q <= b; q++) {
                    if (sums[p][q]) {
                        return true;
                    }
                }
            }
            return false;
        }

        private void forgetWays() {
            for (int place = 0; place < 7; place++) {
                ways[place] = null;
            }
        }

        private boolean[][][] waysFrom(int from) {
            if (ways[from] == null) {
                ways[from] = new boolean[7][SUMS][SUMS];
                walk(from, ways[from]);
            }
            return ways[from];
        }

        private void walk(int from, boolean[][][] seen) {
            List<int[]> open = new ArrayList<>();
            seen[from][0][0] = true;
            open.add(new int[] {from, 0, 0});
            for (int i = 0; i < open.size(); i++) {
                int[] way = open.get(i);
                for (int[] line : lines) {
                    int p = way[1] + line[2];
                    int q = way[2] + line[3];
                    if (line[0] == way[0] && p < SUMS && q < SUMS && !seen[line[1]][p][q]) {
                        seen[line[1]][p][q] = true;
                        open.add(new int[] {line[1], p, q});
                    }
                }
            }
        }
    }
}
