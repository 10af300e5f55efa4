import java.util.LinkedHashMap;
import java.util.Map;
import java.util.function.ToIntFunction;

/** The sentences of the document's sections "What it is" and "Terms", each by a test of its own. */
public final class TermsTest {
    private static final Checks CHECKS = new Checks();

    // A line that adds nothing, so that a token can go round on it as often as one likes.
    private static final Content LONG_USED = new Content(
        new int[][] {{5, 5, 0, 0}, {0, 1, 1, 2}, {0, 1, 2, 1}},
        new int[][] {{5, 9, 9}, {0, 13, 13}});

    public static void main(String[] args) {
        CHECKS.sentence("An object is used for at most 512 calls after it has been made",
            TermsTest::the512thCall);
        CHECKS.sentence("what later calls answer is free", TermsTest::laterCallsOnlyEnd);
        CHECKS.sentence("PLACES are 0 to 6", TermsTest::places);
        CHECKS.sentence("LINES lead from a place to a place (it may be the same one)",
            TermsTest::linesFromEachPlaceToEach);
        CHECKS.sentence("p and q from 0 to 3", TermsTest::additions);
        CHECKS.sentence("at most 12 are held", TermsTest::atMost12Lines);
        CHECKS.sentence("numbered from 0 in the order in which they were added",
            TermsTest::linesAreNumbered);
        CHECKS.sentence("at the start none is", TermsTest::noLineAtTheStart);
        CHECKS.sentence("A TIME is a pair (a, b), a and b from 0 to 15", TermsTest::times);
        CHECKS.sentence("One time is AT MOST another one if neither of its numbers is greater than the "
            + "other one's", TermsTest::atMost);
        CHECKS.sentence("A WAY from a place to a place is a row of lines, each beginning where the one "
            + "before it ends", TermsTest::waysAreJoined);
        CHECKS.sentence("it may be empty, from a place to itself", TermsTest::emptyWay);
        CHECKS.sentence("its SUM is the sum of the additions of its lines", TermsTest::sumOfAWay);
        CHECKS.sentence("as often as they stand in it", TermsTest::aLineOftenInAWay);
        CHECKS.sentence("number by number", TermsTest::sumsOfBothNumbers);
        CHECKS.sentence("TOKENS lie at places, each with a time; there may be several with the same "
            + "place and time", TermsTest::severalTokensAlike);
        CHECKS.sentence("at most 20 in all", TermsTest::atMost20Tokens);
        CHECKS.sentence("A token at place l with the time s CAN REACH the place m at the time t if there "
            + "is a way from l to m such that s plus its sum is at most t", TermsTest::canReach);
        CHECKS.sentence("THE FRONT of a place m is the set of those times t that some token can reach m "
            + "at", TermsTest::frontIsOfTimesReached);
        CHECKS.sentence("for which no other time u that is at most t is such that some token can reach m "
            + "at u", TermsTest::frontHasNoLaterTime);
        CHECKS.sentence("A call with an argument that is not as said is refused: it answers -1 and "
            + "changes nothing", TermsTest::wrongArguments);
        CHECKS.end();
    }

    // What it is

    private static void the512thCall() {
        lastOf512("link", 4, x -> x.link(1, 2, 3, 3));
        lastOf512("unlink", 2, x -> x.unlink(2));
        lastOf512("put", 3, x -> x.put(6, 15, 15));
        lastOf512("take", 1, x -> x.take(0, 13, 13));
        lastOf512("pass", 0, x -> x.pass(1, 13, 13));
        lastOf512("pass", -1, x -> x.pass(3, 13, 13));
        lastOf512("possible", 1, x -> x.possible(1, 14, 15));
        lastOf512("possible", 0, x -> x.possible(1, 14, 14));
        lastOf512("ready", 1, x -> x.ready(5, 9, 9));
        lastOf512("front", 2, x -> x.front(1));
        lastOf512("frontAt", 16 * 15 + 14, x -> x.frontAt(1, 1));
        lastOf512("shortest", 2, x -> x.shortest(0, 1));
    }

    /** Calls it as the 512th one, after calls of several kinds that leave all as it was. */
    private static void lastOf512(String what, int want, ToIntFunction<FrontierWatch> last) {
        int pairs = (511 - LONG_USED.callsToMake()) / 2;
        for (int kind = 0; kind < 6; kind++) {
            FrontierWatch x = LONG_USED.make();
            for (int i = 0; i < pairs; i++) {
                twoCalls(x, kind, i);
            }
            CHECKS.due(what + " as call 512, kind " + kind, last.applyAsInt(x), want);
        }
    }

    private static void twoCalls(FrontierWatch x, int kind, int i) {
        String what = "pair " + i + " of calls, ";
        switch (kind) {
            case 0:
                CHECKS.due(what + "put", x.put(3, i % 16, 4), 3);
                CHECKS.due(what + "take", x.take(3, i % 16, 4), 2);
                break;
            case 1:
                CHECKS.due(what + "link", x.link(i % 7, 0, 0, 0), 4);
                CHECKS.due(what + "unlink", x.unlink(3), 3);
                break;
            case 2:
                CHECKS.due(what + "pass", x.pass(0, 9, 9), 0);
                CHECKS.due(what + "pass without a token", x.pass(1, 9, 9), -1);
                break;
            case 3:
                CHECKS.due(what + "front", x.front(i % 7), new int[] {1, 2, 0, 0, 0, 1, 0}[i % 7]);
                CHECKS.due(what + "frontAt", x.frontAt(1, i % 3), new int[] {239, 254, -1}[i % 3]);
                break;
            case 4:
                CHECKS.due(what + "possible", x.possible(0, i % 16, 15), i % 16 >= 13 ? 1 : 0);
                CHECKS.due(what + "shortest", x.shortest(i % 7, 1), new int[] {2, 1, 0, 0, 0, 0, 0}[i % 7]);
                break;
            default:
                CHECKS.due(what + "refused", x.put(7, 0, 0), -1);
                CHECKS.due(what + "refused", x.unlink(3 + i), -1);
                break;
        }
    }

    private static void laterCallsOnlyEnd() {
        FrontierWatch x = Content.FULL.make();
        int answers = 0;
        for (int i = 0; i < 3000; i++) {
            int place = i % 9 - 1;
            int a = i % 18 - 1;
            int b = i / 18 % 18 - 1;
            int[] got = {x.link(place, b % 7, a % 4, b % 4), x.pass(i % 14 - 1, a, b), x.take(place, a, b),
                x.put(place, a, b), x.possible(place, a, b), x.ready(place, a, b), x.front(place),
                x.frontAt(place, a), x.shortest(place, b), x.unlink(i % 40)};
            answers += got.length;
        }
        CHECKS.due("calls that ended", answers, 30000);
    }

    // Terms: places

    private static void places() {
        for (int place = 0; place <= 6; place++) {
            FrontierWatch x = new FrontierWatch();
            CHECKS.due("link from " + place, x.link(place, 0, 0, 0), 1);
            CHECKS.due("link to " + place, x.link(0, place, 0, 0), 2);
            CHECKS.due("put at " + place, x.put(place, 5, 5), 1);
            CHECKS.due("possible at " + place, x.possible(place, 5, 5), 1);
            CHECKS.due("ready at " + place, x.ready(place, 5, 5), 1);
            CHECKS.due("front of " + place, x.front(place), 1);
            CHECKS.due("frontAt of " + place, x.frontAt(place, 0), 16 * 5 + 5);
            CHECKS.due("shortest from " + place, x.shortest(place, 0), 1);
            CHECKS.due("shortest to " + place, x.shortest(0, place), 1);
            CHECKS.due("take from " + place, x.take(place, 5, 5), 0);
        }
        for (int wrong : Numbers.outside(6)) {
            withPlace(wrong).forEach(TermsTest::refusedBySome);
        }
    }

    // Terms: lines

    private static void linesFromEachPlaceToEach() {
        for (int from = 0; from <= 6; from++) {
            for (int to = 0; to <= 6; to++) {
                String what = "line " + from + " to " + to + ": ";
                FrontierWatch x = new FrontierWatch();
                CHECKS.due(what + "link", x.link(from, to, 1, 2), 1);
                x.put(from, 3, 3);
                CHECKS.due(what + "front of its end", x.frontAt(to, 0), from == to ? 51 : 16 * 4 + 5);
                CHECKS.due(what + "pass", x.pass(0, 3, 3), 0);
                CHECKS.due(what + "then at its end", x.take(to, 4, 5), 0);
            }
        }
    }

    private static void additions() {
        for (int p = 0; p <= 3; p++) {
            for (int q = 0; q <= 3; q++) {
                String what = "addition " + p + ", " + q + ": ";
                FrontierWatch x = new FrontierWatch();
                CHECKS.due(what + "link", x.link(2, 5, p, q), 1);
                x.put(2, 0, 0);
                CHECKS.due(what + "front of its end", x.frontAt(5, 0), 16 * p + q);
                CHECKS.due(what + "pass", x.pass(0, 0, 0), 0);
                CHECKS.due(what + "then at its end", x.take(5, p, q), 0);
            }
        }
        for (int wrong : Numbers.outside(3)) {
            withAdditionNumber(wrong).forEach(TermsTest::refusedBySome);
        }
    }

    private static void atMost12Lines() {
        FrontierWatch x = new FrontierWatch();
        for (int turn = 0; turn < 12; turn++) {
            for (int i = 0; i < 12; i++) {
                CHECKS.due("turn " + turn + ", line " + i, x.link(turn % 7, turn % 5, 0, 1), i + 1);
            }
            CHECKS.due("turn " + turn + ", a thirteenth line", x.link(6, 6, 3, 3), -1);
            for (int i = 11; i >= 0; i--) {
                CHECKS.due("turn " + turn + ", unlink " + i, x.unlink(i / 2), i);
            }
        }
    }

    private static void linesAreNumbered() {
        for (int i = 0; i < 12; i++) {
            FrontierWatch x = Content.FULL.make();
            int[] line = Content.FULL.lines[i];
            x.take(0, 0, 0);
            x.put(line[0], 2, 2);
            CHECKS.due("pass along " + i, x.pass(i, 2, 2), 0);
            CHECKS.due("behind " + i, x.take(line[1], 2 + line[2], 2 + line[3]), 19);
        }
        FrontierWatch y = Content.ofLines(new int[][] {{0, 1, 0, 0}, {0, 2, 0, 0}}).make();
        y.put(0, 0, 0);
        CHECKS.due("no line before 0", y.pass(-1, 0, 0), -1);
        CHECKS.due("no line behind the last", y.pass(2, 0, 0), -1);
        y.link(0, 3, 0, 0);
        CHECKS.due("the one added last has the last number", y.pass(2, 0, 0), 0);
        CHECKS.due("the one added last leads to its end", y.take(3, 0, 0), 0);
    }

    private static void noLineAtTheStart() {
        for (int line = -1; line <= 12; line++) {
            FrontierWatch x = new FrontierWatch();
            x.put(0, 0, 0);
            CHECKS.due("pass along " + line, x.pass(line, 0, 0), -1);
            CHECKS.due("unlink " + line, x.unlink(line), -1);
        }
        CHECKS.due("the first link", new FrontierWatch().link(0, 0, 0, 0), 1);
    }

    // Terms: times

    private static void times() {
        FrontierWatch x = new FrontierWatch();
        for (int time = 0; time < 256; time++) {
            CHECKS.due("put with the time " + time, x.put(3, time / 16, time % 16), 1);
            CHECKS.due("take with the time " + time, x.take(3, time / 16, time % 16), 0);
        }
        for (int corner : new int[] {0, 15, 240, 255}) {
            FrontierWatch y = Content.ofLines(new int[] {0, 1, 0, 0}).make();
            int a = corner / 16;
            int b = corner % 16;
            y.put(0, a, b);
            CHECKS.due("possible at " + corner, y.possible(0, a, b), 1);
            CHECKS.due("ready at " + corner, y.ready(0, a, b), 1);
            CHECKS.due("frontAt of " + corner, y.frontAt(0, 0), corner);
            CHECKS.due("pass at " + corner, y.pass(0, a, b), 0);
        }
        for (int wrong : Numbers.outside(15)) {
            withTimeNumber(wrong).forEach(TermsTest::refusedBySome);
        }
    }

    private static void atMost() {
        for (int s = 0; s < 256; s++) {
            FrontierWatch x = new FrontierWatch();
            x.put(4, s / 16, s % 16);
            for (int t = 0; t < 256; t++) {
                boolean isAtMost = Numbers.atMost(s / 16, s % 16, t / 16, t % 16);
                CHECKS.due(s + " at most " + t, x.possible(4, t / 16, t % 16), isAtMost ? 1 : 0);
            }
        }
    }

    // Terms: ways

    private static void waysAreJoined() {
        FrontierWatch x = Content.ofLines(new int[][] {{0, 1, 0, 0}, {2, 3, 0, 0}, {4, 1, 0, 0}, {4, 5, 0, 0}})
            .make();
        CHECKS.due("lines that do not meet", x.shortest(0, 3), 0);
        CHECKS.due("lines with the same end", x.shortest(0, 4), 0);
        CHECKS.due("lines with the same beginning", x.shortest(1, 5), 0);
        CHECKS.due("against a line", x.shortest(1, 0), 0);
        x.link(1, 2, 0, 0);
        CHECKS.due("joined by a line between", x.shortest(0, 3), 1);
        CHECKS.due("joined by a line between, from the other beginning", x.shortest(4, 3), 1);
        // The longest way without a round, its lines added forwards, backwards and mixed.
        for (int step = 1; step <= 6; step++) {
            FrontierWatch y = new FrontierWatch();
            for (int i = 1; i <= 6; i++) {
                int from = i * step % 7 - 1;
                y.link(from, from + 1, 1, 2);
            }
            y.put(0, 0, 0);
            CHECKS.due("along six lines, order " + step, y.frontAt(6, 0), 16 * 6 + 12);
            CHECKS.due("along six lines, order " + step, y.shortest(0, 6), 1);
            CHECKS.due("not back, order " + step, y.shortest(6, 0), 0);
        }
    }

    private static void emptyWay() {
        for (int from = 0; from <= 6; from++) {
            FrontierWatch x = new FrontierWatch();
            x.put(from, 7, 7);
            for (int to = 0; to <= 6; to++) {
                int want = from == to ? 1 : 0;
                CHECKS.due("shortest " + from + " " + to, x.shortest(from, to), want);
                CHECKS.due("possible, from " + from + " to " + to, x.possible(to, 7, 7), want);
            }
            x.link(from, from, 1, 1);
            x.link(from, from, 0, 3);
            CHECKS.due("beside rounds from " + from, x.shortest(from, from), 1);
            CHECKS.due("beside rounds from " + from, x.frontAt(from, 0), 16 * 7 + 7);
        }
    }

    private static void sumOfAWay() {
        FrontierWatch x = Content.ofLines(new int[][] {{0, 1, 3, 0}, {1, 2, 0, 3}, {2, 3, 1, 2}}).make();
        x.put(0, 2, 4);
        CHECKS.due("of the empty way", x.frontAt(0, 0), 16 * 2 + 4);
        CHECKS.due("of one line", x.frontAt(1, 0), 16 * 5 + 4);
        CHECKS.due("of two lines", x.frontAt(2, 0), 16 * 5 + 7);
        CHECKS.due("of three lines", x.frontAt(3, 0), 16 * 6 + 9);
        FrontierWatch z = new FrontierWatch();
        for (int i = 0; i < 6; i++) {
            z.link(i, i + 1, 3, 3);
        }
        CHECKS.due("a sum may be above 15", z.shortest(0, 6), 1);
        z.put(0, 0, 0);
        CHECKS.due("five times 3 is 15", z.frontAt(5, 0), 255);
        CHECKS.due("six times 3 is above 15", z.front(6), 0);
    }

    private static void aLineOftenInAWay() {
        FrontierWatch x = Content.ofLines(new int[][] {{0, 0, 3, 1}, {0, 1, 0, 0}}).make();
        x.put(0, 0, 0);
        CHECKS.due("rounds first make no lesser sum", x.shortest(0, 1), 1);
        CHECKS.due("rounds first make no earlier time", x.frontAt(1, 0), 0);
        for (int turn = 0; turn < 5; turn++) {
            CHECKS.due("round " + turn, x.pass(0, 3 * turn, turn), 0);
        }
        CHECKS.due("five rounds add 15", x.frontAt(1, 0), 16 * 15 + 5);
        CHECKS.due("before five rounds' sum", x.possible(1, 14, 15), 0);
        FrontierWatch y = Content.ofLines(new int[][] {{0, 1, 0, 0}, {1, 0, 0, 0}, {1, 2, 1, 1}}).make();
        y.put(1, 6, 6);
        CHECKS.due("rounds that add nothing change no sum", y.shortest(0, 2), 1);
        CHECKS.due("rounds that add nothing change no time", y.frontAt(2, 0), 16 * 7 + 7);
        CHECKS.due("round, at once", y.frontAt(0, 0), 16 * 6 + 6);
    }

    private static void sumsOfBothNumbers() {
        FrontierWatch x = Content.ofLines(new int[][] {{0, 1, 3, 0}, {1, 2, 3, 1}, {2, 3, 3, 0}}).make();
        x.put(0, 6, 0);
        CHECKS.due("nothing goes over from one number to the other", x.frontAt(3, 0), 16 * 15 + 1);
        x.put(0, 0, 15);
        CHECKS.due("b above 15 makes no a greater", x.front(2), 1);
        FrontierWatch y = Content.ofLines(new int[][] {{0, 1, 3, 0}, {0, 1, 0, 3}}).make();
        y.put(0, 0, 0);
        CHECKS.due("p of one way and q of another make no sum", y.possible(1, 2, 2), 0);
        CHECKS.due("nor both together", y.possible(1, 0, 2), 0);
    }

    // Terms: tokens

    private static void severalTokensAlike() {
        FrontierWatch x = Content.ofLines(new int[] {1, 2, 0, 1}).make();
        for (int i = 1; i <= 20; i++) {
            CHECKS.due("token " + i + " of the same", x.put(1, 8, 8), i);
            CHECKS.due("ready with " + i, x.ready(1, 8, 8), 1);
            CHECKS.due("front with " + i, x.front(1), 1);
        }
        CHECKS.due("one of them goes", x.pass(0, 8, 8), 0);
        for (int i = 19; i >= 1; i--) {
            CHECKS.due("take one, " + (i - 1) + " are left", x.take(1, 8, 8), i);
        }
        CHECKS.due("none is left there", x.take(1, 8, 8), -1);
        CHECKS.due("the one that went is at the end", x.take(2, 8, 9), 0);
    }

    private static void atMost20Tokens() {
        FrontierWatch x = new FrontierWatch();
        for (int turn = 0; turn < 8; turn++) {
            for (int i = 0; i < 20; i++) {
                CHECKS.due("turn " + turn + ", token " + i, x.put(i % 7, turn, i % 16), i + 1);
            }
            CHECKS.due("turn " + turn + ", one more of the same", x.put(0, turn, 0), -1);
            CHECKS.due("turn " + turn + ", one more of another", x.put(6, 15, 15), -1);
            for (int i = 0; i < 20; i++) {
                CHECKS.due("turn " + turn + ", take " + i, x.take(i % 7, turn, i % 16), 19 - i);
            }
        }
    }

    private static void canReach() {
        for (int p = 0; p <= 3; p++) {
            for (int q = 0; q <= 3; q++) {
                String what = "over " + p + ", " + q + ": ";
                FrontierWatch x = Content.ofLines(new int[] {0, 1, p, q}).make();
                x.put(0, 12, 12);
                CHECKS.due(what + "s plus the sum is t", x.possible(1, 12 + p, 12 + q), 1);
                CHECKS.due(what + "a is one too little", x.possible(1, 11 + p, 15), 0);
                CHECKS.due(what + "b is one too little", x.possible(1, 15, 11 + q), 0);
                CHECKS.due(what + "it is at most the last time", x.possible(1, 15, 15), 1);
                CHECKS.due(what + "not from m to l", Content.ofLines(new int[] {1, 0, p, q}).make()
                    .possible(1, 15, 15), 0);
                FrontierWatch late = Content.ofLines(new int[] {0, 1, p, q}).make();
                late.put(0, 15, 15);
                CHECKS.due(what + "no time is above 15", late.possible(1, 15, 15), p + q == 0 ? 1 : 0);
            }
        }
        FrontierWatch y = Content.ofLines(new int[][] {{0, 1, 3, 3}, {0, 2, 1, 0}, {2, 1, 0, 2}}).make();
        y.put(0, 4, 4);
        CHECKS.due("any way is enough", y.possible(1, 5, 6), 1);
        CHECKS.due("no way is so short", y.possible(1, 5, 5), 0);
        CHECKS.due("no way at all", y.possible(3, 15, 15), 0);
    }

    // Terms: the front

    private static void frontIsOfTimesReached() {
        FrontierWatch x = Content.ofLines(new int[][] {{0, 1, 1, 0}, {0, 1, 0, 1}}).make();
        CHECKS.due("no token", x.front(1), 0);
        x.put(0, 15, 15);
        CHECKS.due("above 15 there is no time", x.front(1), 0);
        x.put(0, 15, 4);
        CHECKS.due("of two ways, one stays a time", x.front(1), 1);
        CHECKS.due("of two ways, one stays a time", x.frontAt(1, 0), 16 * 15 + 5);
        x.put(0, 3, 14);
        CHECKS.due("of several tokens and ways", x.front(1), 3);
        CHECKS.due("of several tokens and ways", x.frontAt(1, 0), 16 * 3 + 15);
        CHECKS.due("of several tokens and ways", x.frontAt(1, 1), 16 * 4 + 14);
        CHECKS.due("of several tokens and ways", x.frontAt(1, 2), 16 * 15 + 5);
        CHECKS.due("no way", x.front(2), 0);
    }

    private static void frontHasNoLaterTime() {
        for (int t = 0; t < 256; t++) {
            int a = t / 16;
            int b = t % 16;
            FrontierWatch x = Content.ofTokens(new int[][] {{2, 7, 7}, {2, a, b}, {2, 7, 7}}).make();
            boolean isOneLeft = Numbers.atMost(a, b, 7, 7) || Numbers.atMost(7, 7, a, b);
            CHECKS.due("front of (7, 7) and " + t, x.front(2), isOneLeft ? 1 : 2);
            CHECKS.due("first time of it, with " + t, x.frontAt(2, 0), Math.min(t, 16 * 7 + 7));
        }
    }

    // Terms: refused calls

    private static void wrongArguments() {
        for (int wrong : Numbers.outside(6)) {
            withPlace(wrong).forEach(TermsTest::refused);
        }
        for (int wrong : Numbers.outside(3)) {
            withAdditionNumber(wrong).forEach(TermsTest::refused);
        }
        for (int wrong : Numbers.outside(11)) {
            refused("unlink " + wrong, x -> x.unlink(wrong));
            refused("pass along " + wrong, x -> x.pass(wrong, 1, 1));
        }
        for (int wrong : Numbers.outside(15)) {
            withTimeNumber(wrong).forEach(TermsTest::refused);
            refused("frontAt index " + wrong, x -> x.frontAt(0, wrong));
            withNothingElse(wrong).forEach(TermsTest::refused);
        }
    }

    private static void refused(String what, ToIntFunction<FrontierWatch> call) {
        Content.refused(CHECKS, what, call);
    }

    private static void refusedBySome(String what, ToIntFunction<FrontierWatch> call) {
        CHECKS.due(what, call.applyAsInt(Content.SOME.make()), -1);
    }

    // Calls by their names, with the number as one of their arguments, the others being right

    private static Map<String, ToIntFunction<FrontierWatch>> withPlace(int place) {
        Map<String, ToIntFunction<FrontierWatch>> calls = new LinkedHashMap<>();
        calls.put("link from " + place, x -> x.link(place, 0, 0, 0));
        calls.put("link to " + place, x -> x.link(0, place, 0, 0));
        calls.put("put at " + place, x -> x.put(place, 1, 1));
        calls.put("take from " + place, x -> x.take(place, 1, 1));
        calls.put("possible at " + place, x -> x.possible(place, 15, 15));
        calls.put("ready at " + place, x -> x.ready(place, 1, 1));
        calls.put("front of " + place, x -> x.front(place));
        calls.put("frontAt of " + place, x -> x.frontAt(place, 0));
        calls.put("shortest from " + place, x -> x.shortest(place, 0));
        calls.put("shortest to " + place, x -> x.shortest(0, place));
        return calls;
    }

    private static Map<String, ToIntFunction<FrontierWatch>> withAdditionNumber(int number) {
        Map<String, ToIntFunction<FrontierWatch>> calls = new LinkedHashMap<>();
        calls.put("link p " + number, x -> x.link(0, 1, number, 0));
        calls.put("link q " + number, x -> x.link(0, 1, 0, number));
        return calls;
    }

    private static Map<String, ToIntFunction<FrontierWatch>> withTimeNumber(int number) {
        Map<String, ToIntFunction<FrontierWatch>> calls = new LinkedHashMap<>();
        calls.put("put a " + number, x -> x.put(0, number, 1));
        calls.put("put b " + number, x -> x.put(0, 1, number));
        calls.put("take a " + number, x -> x.take(0, number, 1));
        calls.put("take b " + number, x -> x.take(0, 1, number));
        calls.put("pass a " + number, x -> x.pass(0, number, 1));
        calls.put("pass b " + number, x -> x.pass(0, 1, number));
        calls.put("possible a " + number, x -> x.possible(0, number, 1));
        calls.put("possible b " + number, x -> x.possible(0, 1, number));
        calls.put("ready a " + number, x -> x.ready(0, number, 1));
        calls.put("ready b " + number, x -> x.ready(0, 1, number));
        return calls;
    }

    private static Map<String, ToIntFunction<FrontierWatch>> withNothingElse(int number) {
        Map<String, ToIntFunction<FrontierWatch>> calls = new LinkedHashMap<>();
        calls.put("link, all " + number, x -> x.link(number, number, number, number));
        calls.put("put, all " + number, x -> x.put(number, number, number));
        calls.put("take, all " + number, x -> x.take(number, number, number));
        calls.put("pass, all " + number, x -> x.pass(number, number, number));
        calls.put("possible, all " + number, x -> x.possible(number, number, number));
        calls.put("ready, all " + number, x -> x.ready(number, number, number));
        calls.put("frontAt, all " + number, x -> x.frontAt(number, number));
        calls.put("shortest, all " + number, x -> x.shortest(number, number));
        return calls;
    }
}
