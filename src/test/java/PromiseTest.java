import java.util.function.ToIntBiFunction;
import java.util.function.ToIntFunction;

/**
 * The sentences of the promises, each by a test of its own: ordinary inputs, the edges that the
 * document names, wrong inputs.
 */
public final class PromiseTest {
    private static final Checks CHECKS = new Checks();

    public static void main(String[] args) {
        CHECKS.sentence("1: No line, no token", PromiseTest::newObject);

        CHECKS.sentence("2: Adds a line", PromiseTest::linkAdds);
        CHECKS.sentence("2: Answers the number of lines then", PromiseTest::linkAnswersNumber);
        CHECKS.sentence("2: -1", PromiseTest::linkRefuses);
        CHECKS.sentence("2: -1 also if there are 12", PromiseTest::linkWith12);

        CHECKS.sentence("3: Takes the line with the number out", PromiseTest::unlinkTakesOut);
        CHECKS.sentence("3: the ones behind it move one place back", PromiseTest::unlinkMovesBack);
        CHECKS.sentence("3: Answers the number of lines then", PromiseTest::unlinkAnswersNumber);
        CHECKS.sentence("3: -1 if there is none", PromiseTest::unlinkOfNone);

        CHECKS.sentence("4: Puts a token at the place, with the time (a, b)", PromiseTest::putPuts);
        CHECKS.sentence("4: Answers how many tokens there are then", PromiseTest::putAnswersNumber);
        CHECKS.sentence("4: -1", PromiseTest::putRefuses);
        CHECKS.sentence("4: -1 also if there are 20", PromiseTest::putWith20);

        CHECKS.sentence("5: Takes one token with the time (a, b) from the place", PromiseTest::takeTakesOne);
        CHECKS.sentence("5: Answers how many tokens there are then", PromiseTest::takeAnswersNumber);
        CHECKS.sentence("5: -1", PromiseTest::takeRefuses);
        CHECKS.sentence("5: -1 also if there is none", PromiseTest::takeOfNone);

        CHECKS.sentence("6: A token with the time (a, b) at the place from which the line leads goes along "
            + "it: it is taken, and one with the time plus the line's addition is put at the line's other "
            + "end", PromiseTest::passMoves);
        CHECKS.sentence("6: Answers 0", PromiseTest::passAnswers0);
        CHECKS.sentence("6: -1 also if there is no such line", PromiseTest::passWithoutLine);
        CHECKS.sentence("6: or token", PromiseTest::passWithoutToken);
        CHECKS.sentence("6: -2, and changes nothing, if a number of the new time would be above 15",
            PromiseTest::passTooLate);
        CHECKS.sentence("6: tested in this order", PromiseTest::passOrderOfTests);

        CHECKS.sentence("7: 1 if some token can reach the place at the time (a, b)",
            PromiseTest::possibleAlongWays);
        CHECKS.sentence("7: else 0", PromiseTest::possibleNot);
        CHECKS.sentence("7: -1", PromiseTest::possibleRefuses);

        CHECKS.sentence("8: 1 if there is a token with the time (a, b) at the place",
            PromiseTest::readyNeedsToken);
        CHECKS.sentence("8: and every token that can reach the place at (a, b) lies there",
            PromiseTest::readyOthersElsewhere);
        CHECKS.sentence("8: and has this time", PromiseTest::readyOthersThere);
        CHECKS.sentence("8: -1", PromiseTest::readyRefuses);

        CHECKS.sentence("9: How many times the front of the place has", PromiseTest::frontCounts);
        CHECKS.sentence("9: -1", PromiseTest::frontRefuses);

        CHECKS.sentence("10: The time of the front with so many times of it that have a lesser a",
            PromiseTest::frontAtInOrder);
        CHECKS.sentence("10: index from 0", PromiseTest::frontAtIndex);
        CHECKS.sentence("10: as 16 * a + b", PromiseTest::frontAtAnswer);
        CHECKS.sentence("10: -1 also if there is none", PromiseTest::frontAtOfNone);

        CHECKS.sentence("11: How many sums of ways from the one place to the other there are",
            PromiseTest::shortestCounts);
        CHECKS.sentence("11: such that no other sum of such a way is at most it",
            PromiseTest::shortestLeavesOut);
        CHECKS.sentence("11: -1", PromiseTest::shortestRefuses);

        CHECKS.sentence("7 to 11: nothing is said to change", PromiseTest::questionsChangeNothing);
        CHECKS.end();
    }

    // Promise 1

    private static void newObject() {
        Content.NONE.allIn(CHECKS, "new", new FrontierWatch());
        FrontierWatch x = new FrontierWatch();
        for (int place = 0; place < 7; place++) {
            due("front of " + place, x.front(place), 0);
            due("frontAt of " + place, x.frontAt(place, 0), -1);
            due("possible at " + place, x.possible(place, 15, 15), 0);
            due("ready at " + place, x.ready(place, 0, 0), 0);
            due("take from " + place, x.take(place, 0, 0), -1);
            for (int to = 0; to < 7; to++) {
                due("shortest " + place + " " + to, x.shortest(place, to), place == to ? 1 : 0);
            }
        }
        due("unlink", x.unlink(0), -1);
        due("pass", x.pass(0, 0, 0), -1);

        FrontierWatch full = Content.FULL.make();
        Content.NONE.allIn(CHECKS, "new beside a full one", new FrontierWatch());
        Content.FULL.allIn(CHECKS, "full beside a new one", full);
    }

    // Promise 2

    private static void linkAdds() {
        Content.FULL.allIn(CHECKS, "twelve lines", Content.FULL.make());
        Content.NONE.becomes(CHECKS, "the first line", 1, x -> x.link(0, 6, 0, 0),
            Content.ofLines(new int[] {0, 6, 0, 0}));
        Content.NONE.becomes(CHECKS, "the greatest addition", 1, x -> x.link(6, 0, 3, 3),
            Content.ofLines(new int[] {6, 0, 3, 3}));
        Content one = Content.ofLines(new int[] {4, 4, 3, 0});
        one.becomes(CHECKS, "the same line again", 2, x -> x.link(4, 4, 3, 0),
            Content.ofLines(new int[] {4, 4, 3, 0}, new int[] {4, 4, 3, 0}));
        one.becomes(CHECKS, "numbers in their order", 2, x -> x.link(1, 2, 3, 0),
            Content.ofLines(new int[] {4, 4, 3, 0}, new int[] {1, 2, 3, 0}));
        FrontierWatch x = Content.ofTokens(new int[] {3, 5, 5}).make();
        due("before it, not reached", x.possible(2, 15, 15), 0);
        due("link", x.link(3, 2, 1, 1), 1);
        due("tokens reach along it at once", x.possible(2, 6, 6), 1);
        due("the line is counted at once", x.shortest(3, 2), 1);
    }

    private static void linkAnswersNumber() {
        FrontierWatch x = new FrontierWatch();
        for (int i = 1; i <= 12; i++) {
            due("line " + i, x.link(i % 7, (i + 1) % 7, i % 4, 3 - i % 4), i);
        }
        x.unlink(3);
        x.unlink(3);
        due("after two were taken out", x.link(0, 0, 0, 0), 11);
        due("tokens do not count", Content.ofTokens(new int[][] {{0, 0, 0}, {1, 1, 1}}).make()
            .link(0, 0, 0, 0), 1);
    }

    private static void linkRefuses() {
        refusesPlaces("link from", (x, place) -> x.link(place, 0, 0, 0));
        refusesPlaces("link to", (x, place) -> x.link(0, place, 0, 0));
        for (int wrong : Numbers.outside(3)) {
            refused("link p " + wrong, x -> x.link(0, 1, wrong, 0));
            refused("link q " + wrong, x -> x.link(0, 1, 0, wrong));
        }
    }

    private static void linkWith12() {
        for (int place = 0; place < 7; place++) {
            int to = place;
            Content.FULL.unchanged(CHECKS, "link to " + to, -1, x -> x.link(0, to, 0, 0));
        }
        FrontierWatch x = Content.FULL.make();
        due("the thirteenth", x.link(0, 0, 0, 0), -1);
        due("the thirteenth again", x.link(0, 0, 0, 0), -1);
        due("one out", x.unlink(0), 11);
        due("the twelfth", x.link(0, 0, 0, 0), 12);
        due("again a thirteenth", x.link(0, 0, 0, 0), -1);
    }

    // Promise 3

    private static void unlinkTakesOut() {
        Content one = Content.ofLines(new int[] {5, 3, 2, 1});
        one.becomes(CHECKS, "the only one", 0, x -> x.unlink(0), Content.NONE);
        FrontierWatch x = Content.SOME.make();
        due("before it, reached", x.possible(1, 2, 3), 1);
        due("unlink", x.unlink(0), 3);
        due("tokens no longer reach along it", x.possible(1, 15, 15), 0);
        due("no way along it", x.shortest(0, 1), 0);
        due("tokens stay", x.put(0, 0, 0), 6);
        FrontierWatch twice = Content.ofLines(new int[] {0, 1, 2, 2}, new int[] {0, 1, 2, 2}).make();
        due("one of two that are the same", twice.unlink(1), 1);
        due("the other one stays", twice.shortest(0, 1), 1);
        due("the other one", twice.unlink(0), 0);
        due("none is left", twice.shortest(0, 1), 0);
    }

    private static void unlinkMovesBack() {
        for (int number = 0; number < 12; number++) {
            int out = number;
            Content.FULL.becomes(CHECKS, "unlink " + out, 11, x -> x.unlink(out), fullWithoutLine(out));
        }
    }

    private static Content fullWithoutLine(int out) {
        int[][] left = new int[11][];
        for (int i = 0; i < 11; i++) {
            left[i] = Content.FULL.lines[i < out ? i : i + 1];
        }
        return new Content(left, Content.FULL.tokens);
    }

    private static void unlinkAnswersNumber() {
        for (int step = 0; step < 12; step++) {
            FrontierWatch x = Content.FULL.make();
            for (int left = 11; left >= 0; left--) {
                due(left + " lines left", x.unlink(Math.min(step, left)), left);
            }
        }
    }

    private static void unlinkOfNone() {
        Content.NONE.unchanged(CHECKS, "unlink 0", -1, x -> x.unlink(0));
        Content.SOME.unchanged(CHECKS, "unlink 4", -1, x -> x.unlink(4));
        Content.SOME.unchanged(CHECKS, "unlink 11", -1, x -> x.unlink(11));
        Content.FULL.unchanged(CHECKS, "unlink 12", -1, x -> x.unlink(12));
        for (int wrong : Numbers.outside(11)) {
            refused("unlink " + wrong, x -> x.unlink(wrong));
        }
        FrontierWatch x = Content.FULL.make();
        due("the last one", x.unlink(11), 11);
        due("where the last one was", x.unlink(11), -1);
    }

    // Promise 4

    private static void putPuts() {
        Content.FULL.allIn(CHECKS, "twenty tokens", Content.FULL.make());
        Content.NONE.becomes(CHECKS, "the least ones", 1, x -> x.put(0, 0, 0),
            Content.ofTokens(new int[] {0, 0, 0}));
        Content.NONE.becomes(CHECKS, "the greatest ones", 1, x -> x.put(6, 15, 15),
            Content.ofTokens(new int[] {6, 15, 15}));
        Content.ofTokens(new int[] {2, 3, 9}).becomes(CHECKS, "numbers the other way", 2,
            x -> x.put(2, 9, 3), Content.ofTokens(new int[] {2, 3, 9}, new int[] {2, 9, 3}));
        FrontierWatch x = new FrontierWatch();
        due("before it, not possible", x.possible(5, 15, 15), 0);
        due("put", x.put(5, 4, 3), 1);
        due("possible at once", x.possible(5, 4, 3), 1);
        due("ready at once", x.ready(5, 4, 3), 1);
    }

    private static void putAnswersNumber() {
        FrontierWatch x = new FrontierWatch();
        for (int i = 1; i <= 20; i++) {
            due("token " + i, x.put(i % 7, i % 16, 15 - i % 16), i);
        }
        x.take(1, 1, 14);
        x.take(2, 2, 13);
        due("after two were taken", x.put(0, 0, 0), 19);
        due("lines do not count", Content.ofLines(new int[][] {{0, 0, 0, 0}, {0, 1, 0, 0}}).make()
            .put(0, 0, 0), 1);
    }

    private static void putRefuses() {
        refusesPlaces("put", (x, place) -> x.put(place, 1, 1));
        refusesTimes("put", (x, a, b) -> x.put(0, a, b));
    }

    private static void putWith20() {
        for (int place = 0; place < 7; place++) {
            int at = place;
            Content.FULL.unchanged(CHECKS, "put at " + at, -1, x -> x.put(at, 0, 0));
        }
        FrontierWatch x = Content.FULL.make();
        due("the twenty-first", x.put(3, 0, 0), -1);
        due("the twenty-first is not there", x.take(3, 0, 0), -1);
        due("one out", x.take(3, 12, 14), 19);
        due("the twentieth", x.put(3, 0, 0), 20);
        due("again a twenty-first", x.put(3, 0, 0), -1);
    }

    // Promise 5

    private static void takeTakesOne() {
        for (int number = 0; number < 20; number++) {
            int[] token = Content.FULL.tokens[number];
            Content.FULL.becomes(CHECKS, "take token " + number, 19, x -> x.take(token[0], token[1], token[2]),
                fullWithoutToken(number));
        }
        FrontierWatch x = Content.SOME.make();
        due("one of two", x.take(0, 1, 1), 4);
        due("the other one is there", x.ready(0, 1, 1), 1);
        due("the other one", x.take(0, 1, 1), 3);
        due("not possible any more", x.possible(0, 1, 1), 0);
    }

    private static Content fullWithoutToken(int out) {
        int[][] left = new int[19][];
        for (int i = 0; i < 19; i++) {
            left[i] = Content.FULL.tokens[i < out ? i : i + 1];
        }
        return new Content(Content.FULL.lines, left);
    }

    private static void takeAnswersNumber() {
        FrontierWatch x = Content.FULL.make();
        for (int left = 19; left >= 0; left--) {
            int[] token = Content.FULL.tokens[left];
            due(left + " tokens left", x.take(token[0], token[1], token[2]), left);
        }
        due("lines do not count", Content.SOME.make().take(6, 4, 0), 4);
    }

    private static void takeRefuses() {
        refusesPlaces("take", (x, place) -> x.take(place, 1, 1));
        refusesTimes("take", (x, a, b) -> x.take(0, a, b));
    }

    private static void takeOfNone() {
        Content.NONE.unchanged(CHECKS, "take from none", -1, x -> x.take(0, 0, 0));
        Content.SOME.unchanged(CHECKS, "take from another place", -1, x -> x.take(1, 1, 1));
        Content.SOME.unchanged(CHECKS, "take at another a", -1, x -> x.take(0, 2, 1));
        Content.SOME.unchanged(CHECKS, "take at another b", -1, x -> x.take(0, 1, 2));
        Content.SOME.unchanged(CHECKS, "take, numbers the other way", -1, x -> x.take(2, 15, 0));
        Content.SOME.unchanged(CHECKS, "take what can be reached only", -1, x -> x.take(1, 2, 3));
        Content.SOME.unchanged(CHECKS, "take at a later time", -1, x -> x.take(6, 15, 15));
        FrontierWatch x = Content.ofTokens(new int[] {4, 2, 2}).make();
        due("the only one", x.take(4, 2, 2), 0);
        due("it is gone", x.take(4, 2, 2), -1);
    }

    // Promise 6

    private static void passMoves() {
        Content.SOME.becomes(CHECKS, "pass: one of two", 0, x -> x.pass(0, 1, 1), new Content(
            Content.SOME.lines, new int[][] {{0, 1, 1}, {1, 2, 3}, {2, 0, 15}, {6, 15, 3}, {6, 4, 0}}));
        Content.SOME.becomes(CHECKS, "pass: to the same place", 0, x -> x.pass(2, 0, 15), new Content(
            Content.SOME.lines, new int[][] {{0, 1, 1}, {0, 1, 1}, {2, 2, 15}, {6, 15, 3}, {6, 4, 0}}));
        Content round = new Content(new int[][] {{4, 4, 0, 0}}, new int[][] {{4, 15, 15}});
        round.unchanged(CHECKS, "pass: to the same place without addition", 0, x -> x.pass(0, 15, 15));

        FrontierWatch full = Content.ofLines(new int[] {0, 1, 3, 0}).make();
        for (int i = 0; i < 20; i++) {
            full.put(0, 12, 15);
        }
        for (int i = 0; i < 20; i++) {
            due("pass with twenty tokens", full.pass(0, 12, 15), 0);
        }
        due("all are gone along", full.pass(0, 12, 15), -1);
        for (int i = 0; i < 20; i++) {
            due("all are at the other end", full.take(1, 15, 15), 19 - i);
        }
    }

    private static void passAnswers0() {
        for (int number = 0; number < 12; number++) {
            int[] line = Content.FULL.lines[number];
            FrontierWatch x = Content.ofTokens(new int[] {line[0], 12, 12}).make();
            for (int[] each : Content.FULL.lines) {
                x.link(each[0], each[1], each[2], each[3]);
            }
            due("pass along " + number, x.pass(number, 12, 12), 0);
            due("behind " + number, x.take(line[1], 12 + line[2], 12 + line[3]), 0);
        }
    }

    private static void passWithoutLine() {
        Content none = Content.ofTokens(new int[] {0, 1, 1});
        none.unchanged(CHECKS, "pass along 0", -1, x -> x.pass(0, 1, 1));
        Content.SOME.unchanged(CHECKS, "pass along 4", -1, x -> x.pass(4, 1, 1));
        Content.SOME.unchanged(CHECKS, "pass along 11", -1, x -> x.pass(11, 1, 1));
        Content.FULL.unchanged(CHECKS, "pass along 12", -1, x -> x.pass(12, 1, 1));
        for (int wrong : Numbers.outside(11)) {
            refused("pass along " + wrong, x -> x.pass(wrong, 1, 1));
        }
        FrontierWatch x = Content.SOME.make();
        x.unlink(3);
        due("where the last line was", x.pass(3, 4, 0), -1);
    }

    private static void passWithoutToken() {
        Content noToken = Content.ofLines(new int[] {0, 1, 0, 0});
        noToken.unchanged(CHECKS, "pass without any token", -1, x -> x.pass(0, 0, 0));
        Content.SOME.unchanged(CHECKS, "pass at another a", -1, x -> x.pass(0, 2, 1));
        Content.SOME.unchanged(CHECKS, "pass at another b", -1, x -> x.pass(0, 1, 2));
        Content.SOME.unchanged(CHECKS, "pass from another place", -1, x -> x.pass(1, 1, 1));
        Content.SOME.unchanged(CHECKS, "pass with a token at the end only", -1, x -> x.pass(1, 0, 15));
        refusesTimes("pass", (x, a, b) -> x.pass(0, a, b));
    }

    private static void passTooLate() {
        for (int time = 0; time < 256; time++) {
            for (int addition = 0; addition < 16; addition++) {
                int a = time / 16;
                int b = time % 16;
                int newA = a + addition / 4;
                int newB = b + addition % 4;
                Content before = new Content(new int[][] {{2, 3, addition / 4, addition % 4}},
                    new int[][] {{2, a, b}});
                Content after = new Content(before.lines, new int[][] {{3, newA, newB}});
                boolean isLate = newA > 15 || newB > 15;
                before.becomes(CHECKS, "pass from " + a + ", " + b + " to " + newA + ", " + newB,
                    isLate ? -2 : 0, x -> x.pass(0, a, b), isLate ? before : after);
            }
        }
        Content.SOME.unchanged(CHECKS, "pass: a above 15", -2, x -> x.pass(3, 15, 3));
        Content.FULL.unchanged(CHECKS, "pass: both above 15", -2, x -> x.pass(6, 14, 14));
        Content.FULL.unchanged(CHECKS, "pass: to the same place, above 15", -2, x -> x.pass(7, 15, 15));
    }

    private static void passOrderOfTests() {
        Content.SOME.unchanged(CHECKS, "no line, too late along any", -1, x -> x.pass(4, 15, 3));
        Content.SOME.unchanged(CHECKS, "no token, too late if there were one", -1, x -> x.pass(0, 15, 15));
        Content.SOME.unchanged(CHECKS, "token elsewhere, too late", -1, x -> x.pass(0, 15, 3));
        Content.SOME.unchanged(CHECKS, "no time, above 15", -1, x -> x.pass(3, 16, 3));
        Content.SOME.unchanged(CHECKS, "line and token, too late", -2, x -> x.pass(3, 15, 3));
        Content.FULL.unchanged(CHECKS, "full, no token, too late", -1, x -> x.pass(5, 15, 15));
        Content.FULL.unchanged(CHECKS, "full, too late", -2, x -> x.pass(6, 13, 12));
    }

    // Promise 7

    private static void possibleAlongWays() {
        FrontierWatch x = new FrontierWatch();
        for (int i = 0; i < 6; i++) {
            x.link(6 - i, 5 - i, i % 2, 1);
        }
        x.put(6, 2, 3);
        for (int i = 0; i <= 6; i++) {
            int a = 2 + i / 2;
            int b = 3 + i;
            String what = "along " + i + " lines ";
            due(what + "at the time", x.possible(6 - i, a, b), 1);
            due(what + "a greater", x.possible(6 - i, a + 1, b), 1);
            due(what + "b greater", x.possible(6 - i, a, b + 1), 1);
            due(what + "at the last time", x.possible(6 - i, 15, 15), 1);
            due(what + "a lesser", x.possible(6 - i, a - 1, 15), 0);
            due(what + "b lesser", x.possible(6 - i, 15, b - 1), 0);
        }
        FrontierWatch y = Content.ofLines(new int[] {0, 1, 3, 0}, new int[] {0, 1, 0, 3}).make();
        y.put(0, 0, 0);
        due("one line's sum", y.possible(1, 3, 0), 1);
        due("the other line's sum", y.possible(1, 0, 3), 1);
        y.put(1, 2, 2);
        due("any token is enough", y.possible(1, 2, 2), 1);
        FrontierWatch full = Content.FULL.make();
        due("of twenty tokens, the last one", full.possible(6, 1, 1), 1);
        due("the least time", full.possible(0, 0, 0), 1);
    }

    private static void possibleNot() {
        due("no token", new FrontierWatch().possible(0, 15, 15), 0);
        due("no token but lines", Content.ofLines(new int[] {0, 0, 0, 0}).make().possible(0, 15, 15), 0);
        FrontierWatch x = Content.ofLines(new int[] {0, 1, 1, 0}, new int[] {1, 0, 0, 1}).make();
        x.put(0, 15, 0);
        due("the sum goes above 15", x.possible(1, 15, 15), 0);
        x.put(1, 3, 3);
        due("along the line back", x.possible(0, 3, 4), 1);
        due("not without its addition", x.possible(0, 3, 3), 0);
        due("lines lead one way only", Content.SOME.make().possible(6, 3, 15), 0);
        FrontierWatch y = Content.ofLines(new int[] {0, 1, 3, 0}, new int[] {0, 1, 0, 3}).make();
        y.put(0, 0, 0);
        due("not the least numbers of both lines", y.possible(1, 2, 2), 0);
        due("taken", y.take(0, 0, 0), 0);
        due("after it was taken", y.possible(1, 15, 15), 0);
    }

    private static void possibleRefuses() {
        refusesPlaces("possible", (x, place) -> x.possible(place, 15, 15));
        refusesTimes("possible", (x, a, b) -> x.possible(0, a, b));
    }

    // Promise 8

    private static void readyNeedsToken() {
        FrontierWatch x = new FrontierWatch();
        due("no token", x.ready(2, 5, 5), 0);
        x.put(2, 5, 5);
        due("one token", x.ready(2, 5, 5), 1);
        due("a later time has no token", x.ready(2, 6, 6), 0);
        due("a later b has no token", x.ready(2, 5, 6), 0);
        due("an earlier time has no token", x.ready(2, 5, 4), 0);
        due("another place has no token", x.ready(3, 5, 5), 0);
        x.link(2, 3, 0, 0);
        due("reached, but no token there", x.ready(3, 5, 5), 0);
        x.pass(0, 5, 5);
        due("the token came there", x.ready(3, 5, 5), 1);
        due("the token went away", x.ready(2, 5, 5), 0);
        FrontierWatch y = Content.ofTokens(new int[] {6, 15, 15}, new int[] {0, 0, 0}).make();
        due("the greatest time", y.ready(6, 15, 15), 1);
        due("the least time", y.ready(0, 0, 0), 1);
    }

    private static void readyOthersElsewhere() {
        FrontierWatch x = Content.ofTokens(new int[] {2, 5, 5}, new int[] {0, 3, 4}).make();
        due("elsewhere without a way", x.ready(2, 5, 5), 1);
        x.link(0, 2, 3, 0);
        due("its way is too long", x.ready(2, 5, 5), 1);
        x.link(0, 1, 2, 0);
        x.link(1, 2, 0, 1);
        due("a way that comes just at the time", x.ready(2, 5, 5), 0);
        x.unlink(2);
        due("the way is gone", x.ready(2, 5, 5), 1);

        FrontierWatch y = Content.ofTokens(new int[] {1, 5, 5}, new int[] {0, 5, 5}).make();
        due("the same time elsewhere, no way", y.ready(1, 5, 5), 1);
        y.link(0, 1, 0, 0);
        due("the same time elsewhere, a way that adds nothing", y.ready(1, 5, 5), 0);
        due("no way back", y.ready(0, 5, 5), 1);
        y.pass(0, 5, 5);
        due("when it has come", y.ready(1, 5, 5), 1);
        y.link(1, 0, 0, 0);
        due("its own round through another place", y.ready(1, 5, 5), 1);

        FrontierWatch z = Content.ofTokens(new int[] {6, 15, 15}, new int[] {0, 0, 0}).make();
        for (int i = 0; i < 6; i++) {
            z.link(i, i + 1, 3, 0);
        }
        due("six lines, too far", z.ready(6, 15, 15), 1);
        z.unlink(5);
        z.link(5, 6, 0, 3);
        due("six lines, just at the time", z.ready(6, 15, 15), 0);
    }

    private static void readyOthersThere() {
        FrontierWatch x = Content.ofTokens(new int[] {2, 5, 5}, new int[] {2, 5, 5}).make();
        due("two of the same", x.ready(2, 5, 5), 1);
        x.put(2, 5, 6);
        due("a later one beside it", x.ready(2, 5, 5), 1);
        due("an earlier one beside it", x.ready(2, 5, 6), 0);
        x.put(2, 6, 4);
        due("neither is at most the other", x.ready(2, 5, 5), 1);
        due("neither is at most the other", x.ready(2, 6, 4), 1);
        x.link(2, 2, 0, 0);
        due("round to itself", x.ready(2, 5, 5), 1);
        x.put(2, 4, 5);
        due("a lesser a", x.ready(2, 5, 5), 0);
        due("the earlier one itself", x.ready(2, 4, 5), 1);
        x.take(2, 4, 5);
        x.put(2, 5, 4);
        due("a lesser b", x.ready(2, 5, 5), 0);

        FrontierWatch y = Content.ofTokens(new int[] {1, 2, 2}, new int[] {1, 3, 3}).make();
        due("the one put first is earlier", y.ready(1, 3, 3), 0);
        y.take(1, 2, 2);
        due("the earlier one is taken", y.ready(1, 3, 3), 1);
    }

    private static void readyRefuses() {
        refusesPlaces("ready", (x, place) -> x.ready(place, 1, 1));
        refusesTimes("ready", (x, a, b) -> x.ready(0, a, b));
    }

    // Promise 9

    private static void frontCounts() {
        FrontierWatch x = Content.ofTokens(new int[] {3, 5, 5}, new int[] {3, 5, 5}).make();
        due("the same time twice", x.front(3), 1);
        due("another place", x.front(2), 0);
        x.put(3, 5, 6);
        x.put(3, 6, 5);
        due("later ones are not in it", x.front(3), 1);
        x.put(3, 4, 6);
        x.put(3, 7, 0);
        due("neither is at most the other", x.front(3), 3);
        x.put(3, 0, 0);
        due("the least time alone", x.front(3), 1);

        FrontierWatch all = new FrontierWatch();
        due("none", all.front(6), 0);
        for (int a = 0; a < 16; a++) {
            all.put(6, 15 - a, a);
            due("one more", all.front(6), a + 1);
        }
        all.put(6, 0, 14);
        due("one for two", all.front(6), 15);
        all.put(6, 1, 13);
        due("one for one", all.front(6), 15);

        FrontierWatch z = Content.ofLines(new int[] {0, 1, 1, 0}, new int[] {1, 0, 0, 1}).make();
        z.put(0, 15, 15);
        due("its times end at 15", z.front(1), 0);
        z.put(0, 14, 15);
        due("just at 15", z.front(1), 1);
        due("a round adds nothing to it", z.front(0), 1);
    }

    private static void frontRefuses() {
        refusesPlaces("front", (x, place) -> x.front(place));
    }

    // Promise 10

    private static void frontAtInOrder() {
        FrontierWatch x = Content.ofLines(new int[] {0, 1, 3, 0}, new int[] {0, 1, 0, 3},
            new int[] {1, 2, 2, 0}, new int[] {1, 2, 0, 1}).make();
        x.put(0, 1, 2);
        frontDue("of four sums", x, 2, 16 + 6, 16 * 3 + 5, 16 * 4 + 3, 16 * 6 + 2);
        x.put(2, 4, 2);
        frontDue("one for two", x, 2, 16 + 6, 16 * 3 + 5, 16 * 4 + 2);
        x.put(2, 0, 15);
        frontDue("one before", x, 2, 15, 16 + 6, 16 * 3 + 5, 16 * 4 + 2);
        x.put(2, 15, 0);
        frontDue("one behind", x, 2, 15, 16 + 6, 16 * 3 + 5, 16 * 4 + 2, 16 * 15);
        x.take(2, 4, 2);
        frontDue("two for one", x, 2, 15, 16 + 6, 16 * 3 + 5, 16 * 4 + 3, 16 * 6 + 2, 16 * 15);
        frontDue("of another place", x, 1, 16 + 5, 16 * 4 + 2);
    }

    private static void frontAtIndex() {
        FrontierWatch x = sixteenSums();
        x.put(0, 0, 0);
        int[] times = new int[16];
        for (int a = 0; a < 16; a++) {
            times[a] = 16 * a + 15 - a;
        }
        frontDue("sixteen times of one token", x, 6, times);
    }

    private static void frontAtAnswer() {
        for (int time = 0; time < 256; time++) {
            FrontierWatch x = Content.ofTokens(new int[] {time % 7, time / 16, time % 16}).make();
            due("the front of " + time, x.frontAt(time % 7, 0), time);
        }
    }

    private static void frontAtOfNone() {
        FrontierWatch x = Content.ofTokens(new int[] {0, 4, 8}, new int[] {0, 8, 4}).make();
        due("no time at the place", x.frontAt(1, 0), -1);
        due("the last one", x.frontAt(0, 1), 16 * 8 + 4);
        due("behind the last one", x.frontAt(0, 2), -1);
        due("the a of a time is no index", x.frontAt(0, 4), -1);
        x.put(0, 3, 3);
        due("the last one is gone", x.frontAt(0, 1), -1);
        x.take(0, 3, 3);
        due("it is there again", x.frontAt(0, 1), 16 * 8 + 4);
        for (int wrong : Numbers.outside(15)) {
            refused("frontAt index " + wrong, y -> y.frontAt(0, wrong));
        }
        refusesPlaces("frontAt", (y, place) -> y.frontAt(place, 0));
    }

    /** Also asks in front of the first time and behind the last one. */
    private static void frontDue(String what, FrontierWatch x, int place, int... times) {
        due(what + ": front", x.front(place), times.length);
        due(what + ": frontAt -1", x.frontAt(place, -1), -1);
        for (int i = 0; i < times.length; i++) {
            due(what + ": frontAt " + i, x.frontAt(place, i), times[i]);
        }
        due(what + ": frontAt " + times.length, x.frontAt(place, times.length), -1);
    }

    // Promise 11

    private static void shortestCounts() {
        FrontierWatch x = new FrontierWatch();
        due("no way", x.shortest(0, 1), 0);
        due("the empty way", x.shortest(0, 0), 1);
        x.link(0, 1, 1, 1);
        due("one line", x.shortest(0, 1), 1);
        due("not back", x.shortest(1, 0), 0);
        x.link(0, 1, 3, 0);
        x.link(0, 1, 0, 3);
        due("three sums", x.shortest(0, 1), 3);
        x.put(0, 15, 15);
        due("tokens do not matter", x.shortest(0, 1), 3);
        due("sixteen sums", sixteenSums().shortest(0, 6), 16);

        FrontierWatch y = new FrontierWatch();
        for (int i = 0; i < 6; i++) {
            y.link(i, i + 1, 3, 0);
            y.link(i, i + 1, 0, 3);
        }
        due("from (0, 18) to (18, 0)", y.shortest(0, 6), 7);
        y.put(0, 0, 0);
        frontDue("the front has times to 15 only", y, 6,
            16 * 3 + 15, 16 * 6 + 12, 16 * 9 + 9, 16 * 12 + 6, 16 * 15 + 3);
    }

    private static void shortestLeavesOut() {
        FrontierWatch x = Content.ofLines(new int[] {0, 1, 1, 1}, new int[] {0, 1, 1, 1}).make();
        due("the same sum twice is one", x.shortest(0, 1), 1);
        x.link(0, 1, 1, 2);
        x.link(0, 1, 2, 1);
        due("greater sums", x.shortest(0, 1), 1);
        x.link(0, 1, 3, 0);
        x.link(0, 1, 0, 3);
        due("neither is at most the other", x.shortest(0, 1), 3);
        x.link(0, 0, 1, 0);
        x.link(1, 0, 0, 1);
        due("rounds add none", x.shortest(0, 1), 3);
        due("to itself, the empty way is at most each", x.shortest(0, 0), 1);
        due("back", x.shortest(1, 0), 1);
        x.link(0, 1, 0, 0);
        due("no addition is at most each", x.shortest(0, 1), 1);
        due("unlinked", x.unlink(8), 8);
        due("as before", x.shortest(0, 1), 3);
        x.link(0, 2, 0, 1);
        x.link(2, 1, 1, 0);
        due("the same sum along another way is one", x.shortest(0, 1), 3);
        x.link(2, 1, 0, 1);
        due("a lesser one for one", x.shortest(0, 1), 3);
        x.link(2, 1, 0, 0);
        due("a lesser one for two", x.shortest(0, 1), 2);
    }

    private static void shortestRefuses() {
        refusesPlaces("shortest from", (x, place) -> x.shortest(place, 0));
        refusesPlaces("shortest to", (x, place) -> x.shortest(0, place));
        refusesPlaces("shortest from and to", (x, place) -> x.shortest(place, place));
    }

    /** Ways from 0 to 6 whose sums are (0, 15), (1, 14) and so on to (15, 0). */
    private static FrontierWatch sixteenSums() {
        FrontierWatch x = new FrontierWatch();
        int[] steps = {1, 2, 3, 3, 3, 3};
        for (int i = 0; i < 6; i++) {
            x.link(i, i + 1, steps[i], 0);
            x.link(i, i + 1, 0, steps[i]);
        }
        return x;
    }

    // Promises 7 to 11

    private static void questionsChangeNothing() {
        Content.SOME.unchanged(CHECKS, "possible", 1, x -> x.possible(2, 2, 6));
        Content.SOME.unchanged(CHECKS, "possible, not", 0, x -> x.possible(2, 0, 14));
        Content.SOME.unchanged(CHECKS, "ready", 1, x -> x.ready(0, 1, 1));
        Content.SOME.unchanged(CHECKS, "ready, not", 0, x -> x.ready(0, 1, 2));
        Content.SOME.unchanged(CHECKS, "front", 2, x -> x.front(2));
        Content.SOME.unchanged(CHECKS, "frontAt", 15, x -> x.frontAt(2, 0));
        Content.SOME.unchanged(CHECKS, "frontAt", 16 * 2 + 6, x -> x.frontAt(2, 1));
        Content.SOME.unchanged(CHECKS, "shortest", 1, x -> x.shortest(6, 2));
        for (int place = 0; place < 7; place++) {
            int at = place;
            Content.FULL.unchanged(CHECKS, "possible at " + at, 1, x -> x.possible(at, 15, 15));
            Content.FULL.unchanged(CHECKS, "ready at " + at, 0, x -> x.ready(at, 15, 14));
            Content.FULL.unchanged(CHECKS, "front of " + at, Content.FULL.make().front(at), x -> x.front(at));
            Content.FULL.unchanged(CHECKS, "frontAt of " + at, Content.FULL.make().frontAt(at, 0),
                x -> x.frontAt(at, 0));
            Content.FULL.unchanged(CHECKS, "shortest to " + at, Content.FULL.make().shortest(0, at),
                x -> x.shortest(0, at));
        }
    }

    private interface TimedCall {
        int answer(FrontierWatch x, int a, int b);
    }

    private static void refusesPlaces(String what, ToIntBiFunction<FrontierWatch, Integer> call) {
        for (int wrong : Numbers.outside(6)) {
            refused(what + " " + wrong, x -> call.applyAsInt(x, wrong));
        }
    }

    private static void refusesTimes(String what, TimedCall call) {
        for (int wrong : Numbers.outside(15)) {
            refused(what + ", a " + wrong, x -> call.answer(x, wrong, 1));
            refused(what + ", b " + wrong, x -> call.answer(x, 1, wrong));
        }
    }

    private static void due(String what, int got, int want) {
        CHECKS.due(what, got, want);
    }

    private static void refused(String what, ToIntFunction<FrontierWatch> call) {
        Content.refused(CHECKS, what, call);
    }
}
