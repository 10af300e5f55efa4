import java.util.function.ToIntFunction;

/** The promises one by one: ordinary inputs, the edges that the document names, wrong inputs. */
public final class PromiseTest {
    private static final Checks CHECKS = new Checks();

    private static final int[] NOT_PLACES = {-1, 7, 8, 64, Integer.MIN_VALUE, Integer.MAX_VALUE};
    private static final int[] NOT_IN_ADDITION = {-1, 4, 5, 16, Integer.MIN_VALUE, Integer.MAX_VALUE};
    private static final int[] NOT_IN_TIME = {-1, 16, 17, 256, Integer.MIN_VALUE, Integer.MAX_VALUE};

    // What sample() holds: lines as from, to, p, q, and tokens as place, a, b.
    private static final int[][] LINES = {{0, 1, 1, 2}, {1, 2, 0, 3}, {2, 2, 2, 0}, {6, 0, 3, 1}};
    private static final int[][] TOKENS = {{0, 1, 1}, {0, 1, 1}, {2, 0, 15}, {6, 15, 3}, {6, 4, 0}};

    public static void main(String[] args) {
        newObject();
        linkAdds();
        linkRefuses();
        unlinkTakesOut();
        unlinkRefuses();
        putPuts();
        putRefuses();
        takeTakesOne();
        takeRefuses();
        passMoves();
        passRefuses();
        passTooLate();
        possibleAlongWays();
        possibleEdges();
        readyLooksAtOthers();
        frontOfPlaces();
        frontAtInOrder();
        shortestCountsSums();
        shortestGoesAboveTimes();
        questionsRefuseWrongPlaces();
        questionsRefuseWrongTimes();
        questionsChangeNothing();
        CHECKS.end();
    }

    // Promise 1

    private static void newObject() {
        FrontierWatch x = new FrontierWatch();
        for (int place = 0; place < 7; place++) {
            due("new: front", x.front(place), 0);
            due("new: frontAt", x.frontAt(place, 0), -1);
            due("new: possible", x.possible(place, 15, 15), 0);
            due("new: ready", x.ready(place, 0, 0), 0);
            due("new: take", x.take(place, 0, 0), -1);
            for (int to = 0; to < 7; to++) {
                due("new: shortest " + place + " " + to, x.shortest(place, to), place == to ? 1 : 0);
            }
        }
        due("new: unlink", x.unlink(0), -1);
        due("new: pass", x.pass(0, 0, 0), -1);
        due("new: first link", x.link(3, 3, 0, 0), 1);
        due("new: first put", x.put(3, 0, 0), 1);

        FrontierWatch y = new FrontierWatch();
        due("objects share no line", y.link(0, 0, 0, 0), 1);
        due("objects share no token", y.put(0, 0, 0), 1);
    }

    // Promise 2

    private static void linkAdds() {
        FrontierWatch x = new FrontierWatch();
        for (int i = 0; i < 12; i++) {
            due("link: the number of lines", x.link(i % 7, (i + 1) % 7, i % 4, 3 - i % 4), i + 1);
        }
        due("link: the thirteenth", x.link(0, 0, 0, 0), -1);
        for (int i = 0; i < 12; i++) {
            x.put(i % 7, i, 1);
            due("link: lines are numbered in order", x.pass(i, i, 1), 0);
            due("link: with their end and addition",
                x.take((i + 1) % 7, i + i % 4, 1 + 3 - i % 4), 0);
        }
        due("link: taken out", x.unlink(11), 11);
        due("link: again twelve", x.link(0, 0, 0, 0), 12);
        due("link: again full", x.link(0, 0, 0, 0), -1);

        FrontierWatch y = new FrontierWatch();
        due("link: 0, least addition", y.link(0, 6, 0, 0), 1);
        due("link: 6, greatest addition", y.link(6, 0, 3, 3), 2);
        due("link: to the same place", y.link(6, 6, 0, 3), 3);
        due("link: the same line again", y.link(6, 6, 0, 3), 4);
    }

    private static void linkRefuses() {
        for (int wrong : NOT_PLACES) {
            refused("link from " + wrong, x -> x.link(wrong, 0, 0, 0));
            refused("link to " + wrong, x -> x.link(0, wrong, 0, 0));
        }
        for (int wrong : NOT_IN_ADDITION) {
            refused("link p " + wrong, x -> x.link(0, 1, wrong, 0));
            refused("link q " + wrong, x -> x.link(0, 1, 0, wrong));
        }
    }

    // Promise 3

    private static void unlinkTakesOut() {
        for (int out = 0; out < 12; out++) {
            FrontierWatch x = new FrontierWatch();
            for (int i = 0; i < 12; i++) {
                x.link(i % 7, (i + 2) % 7, i % 4, i / 4);
            }
            due("unlink " + out, x.unlink(out), 11);
            for (int i = 0; i < 11; i++) {
                int was = i < out ? i : i + 1;
                x.put(was % 7, 3, 4);
                due("unlink " + out + ": pass along " + i, x.pass(i, 3, 4), 0);
                due("unlink " + out + ": the end of " + i,
                    x.take((was + 2) % 7, 3 + was % 4, 4 + was / 4), 0);
            }
            due("unlink " + out + ": none behind", x.unlink(11), -1);
            for (int i = 11; i > 0; i--) {
                due("unlink " + out + ": the first of " + i, x.unlink(0), i - 1);
            }
            due("unlink " + out + ": none left", x.unlink(0), -1);
        }
        FrontierWatch y = sample();
        due("unlink: before it, reached", y.possible(1, 2, 3), 1);
        y.unlink(0);
        due("unlink: tokens no longer reach along it", y.possible(1, 15, 15), 0);
        due("unlink: tokens stay", y.put(0, 0, 0), 6);
    }

    private static void unlinkRefuses() {
        for (int wrong : new int[] {-1, 4, 5, 11, 12, Integer.MIN_VALUE, Integer.MAX_VALUE}) {
            refused("unlink " + wrong, x -> x.unlink(wrong));
        }
    }

    // Promise 4

    private static void putPuts() {
        FrontierWatch x = new FrontierWatch();
        for (int i = 0; i < 20; i++) {
            due("put: the number of tokens", x.put(i % 7, i % 16, 15 - i % 16), i + 1);
        }
        due("put: the twenty-first", x.put(0, 0, 0), -1);
        due("put: the twenty-first is not there", x.possible(0, 0, 0), 0);
        for (int i = 0; i < 20; i++) {
            due("put: the token is there", x.take(i % 7, i % 16, 15 - i % 16), 19 - i);
        }

        FrontierWatch y = new FrontierWatch();
        for (int i = 0; i < 20; i++) {
            due("put: all the same", y.put(6, 15, 0), i + 1);
        }
        due("put: no more of the same", y.put(6, 15, 0), -1);
        due("put: one out", y.take(6, 15, 0), 19);
        due("put: one in", y.put(0, 0, 15), 20);
        due("put: full again", y.put(0, 0, 15), -1);
    }

    private static void putRefuses() {
        for (int wrong : NOT_PLACES) {
            refused("put at " + wrong, x -> x.put(wrong, 0, 0));
        }
        for (int wrong : NOT_IN_TIME) {
            refused("put a " + wrong, x -> x.put(0, wrong, 0));
            refused("put b " + wrong, x -> x.put(0, 0, wrong));
        }
    }

    // Promise 5

    private static void takeTakesOne() {
        FrontierWatch x = sample();
        due("take: one of two", x.take(0, 1, 1), 4);
        due("take: the other one is there", x.ready(0, 1, 1), 1);
        due("take: the other one", x.take(0, 1, 1), 3);
        due("take: none is there", x.take(0, 1, 1), -1);
        due("take: not possible any more", x.possible(0, 1, 1), 0);
        due("take: others stay", x.take(6, 15, 3), 2);
        due("take: others stay", x.take(2, 0, 15), 1);
        due("take: the last one", x.take(6, 4, 0), 0);
        due("take: none at all", x.take(6, 4, 0), -1);
        due("take: lines stay", x.link(0, 0, 0, 0), 5);
    }

    private static void takeRefuses() {
        refused("take from another place", x -> x.take(1, 1, 1));
        refused("take at another a", x -> x.take(0, 2, 1));
        refused("take at another b", x -> x.take(0, 1, 2));
        refused("take with the numbers the other way", x -> x.take(2, 15, 0));
        refused("take what can be reached only", x -> x.take(1, 2, 3));
        for (int wrong : NOT_PLACES) {
            refused("take from " + wrong, x -> x.take(wrong, 1, 1));
        }
        for (int wrong : NOT_IN_TIME) {
            refused("take a " + wrong, x -> x.take(0, wrong, 1));
            refused("take b " + wrong, x -> x.take(0, 1, wrong));
        }
    }

    // Promise 6

    private static void passMoves() {
        FrontierWatch x = sample();
        due("pass", x.pass(0, 1, 1), 0);
        holds("pass: one of two", x, LINES,
            new int[][] {{0, 1, 1}, {1, 2, 3}, {2, 0, 15}, {6, 15, 3}, {6, 4, 0}});

        FrontierWatch y = sample();
        due("pass: to the same place", y.pass(2, 0, 15), 0);
        holds("pass: to the same place", y, LINES,
            new int[][] {{0, 1, 1}, {0, 1, 1}, {2, 2, 15}, {6, 15, 3}, {6, 4, 0}});

        FrontierWatch full = new FrontierWatch();
        full.link(0, 1, 3, 0);
        for (int i = 0; i < 20; i++) {
            full.put(0, 12, 15);
        }
        for (int i = 0; i < 20; i++) {
            due("pass: with twenty tokens, up to 15", full.pass(0, 12, 15), 0);
        }
        due("pass: all gone along", full.pass(0, 12, 15), -1);
        for (int i = 0; i < 20; i++) {
            due("pass: all at the other end", full.take(1, 15, 15), 19 - i);
        }

        FrontierWatch round = new FrontierWatch();
        round.link(4, 4, 0, 0);
        round.put(4, 15, 15);
        due("pass: round without addition", round.pass(0, 15, 15), 0);
        due("pass: still there", round.take(4, 15, 15), 0);
    }

    private static void passRefuses() {
        for (int wrong : new int[] {-1, 4, 11, 12, Integer.MIN_VALUE, Integer.MAX_VALUE}) {
            refused("pass along " + wrong, x -> x.pass(wrong, 1, 1));
        }
        for (int wrong : NOT_IN_TIME) {
            refused("pass a " + wrong, x -> x.pass(0, wrong, 1));
            refused("pass b " + wrong, x -> x.pass(0, 1, wrong));
        }
        refused("pass with no token at the time", x -> x.pass(0, 1, 2));
        refused("pass with no token at the beginning", x -> x.pass(1, 1, 1));
        refused("pass with a token at the end only", x -> x.pass(1, 0, 15));
        refused("pass with no token comes before too late", x -> x.pass(0, 15, 15));
    }

    private static void passTooLate() {
        unchanged("pass: a above 15", -2, x -> x.pass(3, 15, 3));
        FrontierWatch x = new FrontierWatch();
        x.link(0, 1, 3, 0);
        x.link(0, 1, 0, 3);
        int[][] lines = {{0, 1, 3, 0}, {0, 1, 0, 3}};
        x.put(0, 13, 12);
        x.put(0, 12, 13);
        due("pass: a at 16", x.pass(0, 13, 12), -2);
        due("pass: b at 16", x.pass(1, 12, 13), -2);
        due("pass: b at 15", x.pass(1, 13, 12), 0);
        due("pass: a at 15", x.pass(0, 12, 13), 0);
        holds("pass: at 15", x, lines, new int[][] {{1, 13, 15}, {1, 15, 13}});
    }

    // Promise 7

    private static void possibleAlongWays() {
        FrontierWatch x = new FrontierWatch();
        for (int i = 0; i < 6; i++) {
            x.link(6 - i, 5 - i, i % 2, 1);
        }
        x.put(6, 2, 3);
        for (int i = 0; i <= 6; i++) {
            int a = 2 + i / 2;
            int b = 3 + i;
            String what = "possible: along " + i + " lines ";
            due(what + "at the time", x.possible(6 - i, a, b), 1);
            due(what + "a greater", x.possible(6 - i, a + 1, b), 1);
            due(what + "b greater", x.possible(6 - i, a, b + 1), 1);
            due(what + "at the last time", x.possible(6 - i, 15, 15), 1);
            due(what + "a lesser", x.possible(6 - i, a - 1, 15), 0);
            due(what + "b lesser", x.possible(6 - i, 15, b - 1), 0);
        }
    }

    private static void possibleEdges() {
        FrontierWatch x = new FrontierWatch();
        x.link(0, 1, 1, 0);
        x.link(1, 0, 0, 1);
        x.put(0, 15, 0);
        due("possible: the sum goes above 15", x.possible(1, 15, 15), 0);
        due("possible: the empty way", x.possible(0, 15, 0), 1);
        x.put(1, 3, 3);
        due("possible: the empty way in a round", x.possible(1, 3, 3), 1);
        due("possible: against the other line", x.possible(0, 3, 4), 1);
        due("possible: not without its addition", x.possible(0, 3, 3), 0);
        due("possible: lines lead one way only", sample().possible(6, 3, 15), 0);

        FrontierWatch y = new FrontierWatch();
        y.link(0, 1, 3, 0);
        y.link(0, 1, 0, 3);
        y.put(0, 0, 0);
        due("possible: one line's sum", y.possible(1, 3, 0), 1);
        due("possible: the other line's sum", y.possible(1, 0, 3), 1);
        due("possible: not the least of both", y.possible(1, 2, 2), 0);
        y.put(1, 2, 2);
        due("possible: any token is enough", y.possible(1, 2, 2), 1);
    }

    // Promise 8

    private static void readyLooksAtOthers() {
        FrontierWatch x = new FrontierWatch();
        due("ready: no token", x.ready(2, 5, 5), 0);
        x.put(2, 5, 5);
        due("ready: one token", x.ready(2, 5, 5), 1);
        due("ready: a later time has no token", x.ready(2, 6, 6), 0);
        due("ready: another place has no token", x.ready(3, 5, 5), 0);
        x.put(2, 5, 5);
        due("ready: two of the same", x.ready(2, 5, 5), 1);
        x.put(2, 5, 6);
        due("ready: a later one beside it", x.ready(2, 5, 5), 1);
        due("ready: an earlier one beside it", x.ready(2, 5, 6), 0);
        x.put(2, 6, 4);
        due("ready: neither is at most the other", x.ready(2, 5, 5), 1);
        due("ready: neither is at most the other", x.ready(2, 6, 4), 1);
        x.put(0, 3, 4);
        due("ready: elsewhere without a way", x.ready(2, 5, 5), 1);
        x.link(0, 2, 3, 0);
        due("ready: its way is too long", x.ready(2, 5, 5), 1);
        x.link(0, 1, 2, 0);
        x.link(1, 2, 0, 1);
        due("ready: a way that comes just at the time", x.ready(2, 5, 5), 0);
        x.unlink(2);
        due("ready: the way is gone", x.ready(2, 5, 5), 1);
        x.link(2, 2, 0, 0);
        due("ready: round to itself", x.ready(2, 5, 5), 1);
        x.put(2, 4, 5);
        due("ready: an earlier one at the same place", x.ready(2, 5, 5), 0);
        due("ready: the earlier one itself", x.ready(2, 4, 5), 1);

        FrontierWatch y = new FrontierWatch();
        y.put(6, 15, 15);
        y.put(0, 0, 0);
        due("ready: the greatest time", y.ready(6, 15, 15), 1);
        due("ready: the least time", y.ready(0, 0, 0), 1);

        FrontierWatch z = new FrontierWatch();
        z.put(1, 2, 2);
        z.put(1, 3, 3);
        due("ready: the one put first is earlier", z.ready(1, 3, 3), 0);
        z.take(1, 2, 2);
        due("ready: the earlier one is taken", z.ready(1, 3, 3), 1);
    }

    // Promises 9 and 10

    private static void frontOfPlaces() {
        FrontierWatch x = new FrontierWatch();
        x.put(3, 5, 5);
        x.put(3, 5, 5);
        due("front: the same time twice", x.front(3), 1);
        x.put(3, 5, 6);
        x.put(3, 6, 5);
        due("front: later ones are not in it", x.front(3), 1);
        x.put(3, 4, 6);
        x.put(3, 7, 0);
        due("front: neither is at most the other", x.front(3), 3);
        due("front: another place", x.front(2), 0);
        x.put(3, 0, 0);
        due("front: the least time alone", x.front(3), 1);
        due("front: the least time alone", x.frontAt(3, 0), 0);

        FrontierWatch y = new FrontierWatch();
        for (int a = 0; a < 16; a++) {
            y.put(6, 15 - a, a);
        }
        due("front: of sixteen times", y.front(6), 16);
        for (int a = 0; a < 16; a++) {
            due("frontAt: of sixteen times", y.frontAt(6, a), 16 * a + 15 - a);
        }
        due("frontAt: behind sixteen times", y.frontAt(6, 16), -1);

        FrontierWatch z = new FrontierWatch();
        z.link(0, 1, 1, 0);
        z.link(1, 0, 0, 1);
        z.put(0, 15, 15);
        due("front: its times end at 15", z.front(1), 0);
        z.put(0, 14, 15);
        due("front: just at 15", z.front(1), 1);
        due("front: just at 15", z.frontAt(1, 0), 255);
        due("front: a round adds nothing to it", z.front(0), 1);
    }

    private static void frontAtInOrder() {
        FrontierWatch x = new FrontierWatch();
        x.link(0, 1, 3, 0);
        x.link(0, 1, 0, 3);
        x.link(1, 2, 2, 0);
        x.link(1, 2, 0, 1);
        x.put(0, 1, 2);
        int[] due = {16 + 6, 16 * 3 + 5, 16 * 4 + 3, 16 * 6 + 2};
        due("frontAt: how many", x.front(2), due.length);
        for (int i = 0; i < due.length; i++) {
            due("frontAt: " + i, x.frontAt(2, i), due[i]);
        }
        for (int wrong : new int[] {-1, 4, 15, 16, 256, Integer.MIN_VALUE, Integer.MAX_VALUE}) {
            due("frontAt: " + wrong, x.frontAt(2, wrong), -1);
            refused("frontAt: index " + wrong, y -> y.frontAt(0, wrong));
        }
        x.put(2, 4, 2);
        due("frontAt: after a lesser one", x.front(2), 3);
        due("frontAt: after a lesser one", x.frontAt(2, 2), 16 * 4 + 2);
        due("frontAt: the old last one is gone", x.frontAt(2, 3), -1);
    }

    // Promise 11

    private static void shortestCountsSums() {
        FrontierWatch x = new FrontierWatch();
        x.link(0, 1, 1, 1);
        due("shortest: one line", x.shortest(0, 1), 1);
        due("shortest: not back", x.shortest(1, 0), 0);
        x.link(0, 1, 1, 1);
        due("shortest: the same sum twice", x.shortest(0, 1), 1);
        x.link(0, 1, 1, 2);
        x.link(0, 1, 2, 1);
        due("shortest: greater sums", x.shortest(0, 1), 1);
        x.link(0, 1, 3, 0);
        x.link(0, 1, 0, 3);
        due("shortest: neither is at most the other", x.shortest(0, 1), 3);
        x.link(0, 0, 1, 0);
        x.link(1, 0, 0, 1);
        due("shortest: rounds add none", x.shortest(0, 1), 3);
        due("shortest: to itself, the empty way", x.shortest(0, 0), 1);
        due("shortest: back", x.shortest(1, 0), 1);
        x.link(0, 1, 0, 0);
        due("shortest: none is at most no addition but itself", x.shortest(0, 1), 1);
        x.put(0, 15, 15);
        due("shortest: tokens do not matter", x.shortest(0, 1), 1);
        due("shortest: unlinked", x.unlink(8), 8);
        due("shortest: as before", x.shortest(0, 1), 3);
    }

    private static void shortestGoesAboveTimes() {
        FrontierWatch x = new FrontierWatch();
        for (int i = 5; i >= 0; i--) {
            x.link(i, i + 1, 3, 3);
        }
        due("shortest: the sum (18, 18)", x.shortest(0, 6), 1);
        x.put(0, 0, 0);
        due("shortest: no time is so late", x.front(6), 0);

        FrontierWatch y = new FrontierWatch();
        for (int i = 0; i < 6; i++) {
            y.link(i, i + 1, 3, 0);
            y.link(i, i + 1, 0, 3);
        }
        due("shortest: from (0, 18) to (18, 0)", y.shortest(0, 6), 7);
        y.put(0, 0, 0);
        due("shortest: the front has less", y.front(6), 5);
        due("shortest: the front has less", y.frontAt(6, 0), 16 * 3 + 15);
        due("shortest: the front has less", y.frontAt(6, 4), 16 * 15 + 3);
    }

    // Promises 7 to 11, wrong inputs and no change

    private static void questionsRefuseWrongPlaces() {
        for (int wrong : NOT_PLACES) {
            refused("possible at " + wrong, x -> x.possible(wrong, 15, 15));
            refused("ready at " + wrong, x -> x.ready(wrong, 1, 1));
            refused("front of " + wrong, x -> x.front(wrong));
            refused("frontAt of " + wrong, x -> x.frontAt(wrong, 0));
            refused("shortest from " + wrong, x -> x.shortest(wrong, 0));
            refused("shortest to " + wrong, x -> x.shortest(0, wrong));
            refused("shortest from and to " + wrong, x -> x.shortest(wrong, wrong));
        }
    }

    private static void questionsRefuseWrongTimes() {
        for (int wrong : NOT_IN_TIME) {
            refused("possible a " + wrong, x -> x.possible(0, wrong, 1));
            refused("possible b " + wrong, x -> x.possible(0, 1, wrong));
            refused("ready a " + wrong, x -> x.ready(0, wrong, 1));
            refused("ready b " + wrong, x -> x.ready(0, 1, wrong));
        }
    }

    private static void questionsChangeNothing() {
        unchanged("possible", 1, x -> x.possible(2, 2, 6));
        unchanged("possible, not", 0, x -> x.possible(2, 0, 14));
        unchanged("ready", 1, x -> x.ready(0, 1, 1));
        unchanged("ready, not", 0, x -> x.ready(0, 1, 2));
        unchanged("front", 2, x -> x.front(2));
        unchanged("frontAt", 15, x -> x.frontAt(2, 0));
        unchanged("frontAt", 16 * 2 + 6, x -> x.frontAt(2, 1));
        unchanged("shortest", 1, x -> x.shortest(6, 2));
    }

    private static void due(String what, int got, int want) {
        CHECKS.due(what, got, want);
    }

    private static void refused(String what, ToIntFunction<FrontierWatch> call) {
        unchanged(what, -1, call);
    }

    private static void unchanged(String what, int want, ToIntFunction<FrontierWatch> call) {
        FrontierWatch x = sample();
        due(what, call.applyAsInt(x), want);
        holds(what, x, LINES, TOKENS);
    }

    private static FrontierWatch sample() {
        FrontierWatch x = new FrontierWatch();
        for (int[] line : LINES) {
            x.link(line[0], line[1], line[2], line[3]);
        }
        for (int[] token : TOKENS) {
            x.put(token[0], token[1], token[2]);
        }
        return x;
    }

    /** Takes everything out of the object, so that all that it held is seen. */
    private static void holds(String what, FrontierWatch x, int[][] lines, int[][] tokens) {
        for (int i = 0; i < tokens.length; i++) {
            due(what + ", then take token " + i,
                x.take(tokens[i][0], tokens[i][1], tokens[i][2]), tokens.length - 1 - i);
        }
        for (int i = 0; i < lines.length; i++) {
            int[] line = lines[i];
            due(what + ", then a token for line " + i, x.put(line[0], 7, 8), 1);
            due(what + ", then pass along line " + i, x.pass(i, 7, 8), 0);
            due(what + ", then take behind line " + i, x.take(line[1], 7 + line[2], 8 + line[3]), 0);
        }
        for (int i = lines.length - 1; i >= 0; i--) {
            due(what + ", then unlink " + i, x.unlink(i), i);
        }
    }
}
