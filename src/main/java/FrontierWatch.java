/** Messages with times that go round in a net of places, and which times can still turn up where. */
public final class FrontierWatch {
    private static final int PLACES = 7;
    private static final int MOST_LINES = 12;
    private static final int MOST_TOKENS = 20;
    private static final int GREATEST_ADDITION = 3;
    private static final int GREATEST_TIME = 15;
    private static final int TIME_NUMBERS = 16;

    private static final int REFUSED = -1;
    private static final int TOO_LATE = -2;
    private static final int NOT_FOUND = -1;

    // Additions are never negative, so leaving a round out of a way never makes its sum greater:
    // every least sum is that of a way that comes to no place twice, which has six lines at most.
    private static final int LONGEST_WAY = 6;
    // The first numbers that the sum of such a way can have: 0 to LONGEST_WAY * GREATEST_ADDITION.
    private static final int SUMS = 19;
    private static final int PLACES_TIMES_SUMS = 133;
    // Far above every sum and every time, so that it stays too great when a time is added to it.
    private static final int NO_WAY = 1000;

    private final int[] lineFrom = new int[MOST_LINES];
    private final int[] lineTo = new int[MOST_LINES];
    private final int[] lineP = new int[MOST_LINES];
    private final int[] lineQ = new int[MOST_LINES];
    private int lineCount;

    // Tokens with the same place and time can't be told apart, so their order is free.
    private final int[] tokenPlace = new int[MOST_TOKENS];
    private final int[] tokenA = new int[MOST_TOKENS];
    private final int[] tokenB = new int[MOST_TOKENS];
    private int tokenCount;

    // At place * SUMS + p: the least q such that (p, q) is the sum of a way that was found from the
    // place to the one that findWaysTo was last asked for; it finds all that have LONGEST_WAY lines
    // at most, and of the longer ones those that it comes upon.
    private final int[] leastQ = new int[PLACES_TIMES_SUMS];
    // The times that findFront last found, as frontAt answers them.
    private final int[] frontTimes = new int[TIME_NUMBERS];

    public FrontierWatch() {
        lineCount = 0;
        tokenCount = 0;
    }

    public int link(int from, int to, int p, int q) {
        if (!isPlace(from) || !isPlace(to) || !isAddition(p, q) || lineCount >= MOST_LINES) {
            return REFUSED;
        }
        lineFrom[lineCount] = from;
        lineTo[lineCount] = to;
        lineP[lineCount] = p;
        lineQ[lineCount] = q;
        lineCount++;
        return lineCount;
    }

    public int unlink(int line) {
        if (!isLine(line)) {
            return REFUSED;
        }
        lineCount--;
        for (int i = line; i < lineCount; i++) {
            lineFrom[i] = lineFrom[i + 1];
            lineTo[i] = lineTo[i + 1];
            lineP[i] = lineP[i + 1];
            lineQ[i] = lineQ[i + 1];
        }
        return lineCount;
    }

    public int put(int place, int a, int b) {
        if (!isPlace(place) || !isTime(a, b) || tokenCount >= MOST_TOKENS) {
            return REFUSED;
        }
        setToken(tokenCount, place, a, b);
        tokenCount++;
        return tokenCount;
    }

    public int take(int place, int a, int b) {
        if (!isPlace(place) || !isTime(a, b)) {
            return REFUSED;
        }
        int token = findToken(place, a, b);
        if (token == NOT_FOUND) {
            return REFUSED;
        }
        tokenCount--;
        setToken(token, tokenPlace[tokenCount], tokenA[tokenCount], tokenB[tokenCount]);
        return tokenCount;
    }

    public int pass(int line, int a, int b) {
        if (!isLine(line) || !isTime(a, b)) {
            return REFUSED;
        }
        int token = findToken(lineFrom[line], a, b);
        if (token == NOT_FOUND) {
            return REFUSED;
        }
        int newA = a + lineP[line];
        int newB = b + lineQ[line];
        if (!isTime(newA, newB)) {
            return TOO_LATE;
        }
        setToken(token, lineTo[line], newA, newB);
        return 0;
    }

    public int possible(int place, int a, int b) {
        if (!isPlace(place) || !isTime(a, b)) {
            return REFUSED;
        }
        findWaysTo(place);
        return earliestB(a) <= b ? 1 : 0;
    }

    public int ready(int place, int a, int b) {
        if (!isPlace(place) || !isTime(a, b)) {
            return REFUSED;
        }
        if (findToken(place, a, b) == NOT_FOUND) {
            return 0;
        }
        findWaysTo(place);
        for (int token = 0; token < tokenCount; token++) {
            if (!isTokenAt(token, place, a, b) && earliestBOfToken(token, a) <= b) {
                return 0;
            }
        }
        return 1;
    }

    public int front(int place) {
        if (!isPlace(place)) {
            return REFUSED;
        }
        return findFront(place);
    }

    public int frontAt(int place, int index) {
        if (!isPlace(place)) {
            return REFUSED;
        }
        int count = findFront(place);
        if (index < 0 || index >= count) {
            return REFUSED;
        }
        return frontTimes[index];
    }

    public int shortest(int from, int to) {
        if (!isPlace(from) || !isPlace(to)) {
            return REFUSED;
        }
        findWaysTo(to);
        int count = 0;
        int least = NO_WAY;
        for (int p = 0; p < SUMS; p++) {
            int q = leastQ[from * SUMS + p];
            if (q < least) {
                least = q;
                count++;
            }
        }
        return count;
    }

    private static boolean isPlace(int place) {
        return place >= 0 && place < PLACES;
    }

    private static boolean isAddition(int p, int q) {
        return p >= 0 && p <= GREATEST_ADDITION && q >= 0 && q <= GREATEST_ADDITION;
    }

    private static boolean isTime(int a, int b) {
        return a >= 0 && a <= GREATEST_TIME && b >= 0 && b <= GREATEST_TIME;
    }

    private boolean isLine(int line) {
        return line >= 0 && line < lineCount;
    }

    private boolean isTokenAt(int token, int place, int a, int b) {
        return tokenPlace[token] == place && tokenA[token] == a && tokenB[token] == b;
    }

    private int findToken(int place, int a, int b) {
        for (int token = 0; token < tokenCount; token++) {
            if (isTokenAt(token, place, a, b)) {
                return token;
            }
        }
        return NOT_FOUND;
    }

    private void setToken(int token, int place, int a, int b) {
        tokenPlace[token] = place;
        tokenA[token] = a;
        tokenB[token] = b;
    }

    private void findWaysTo(int to) {
        for (int i = 0; i < PLACES_TIMES_SUMS; i++) {
            leastQ[i] = NO_WAY;
        }
        leastQ[to * SUMS] = 0;
        for (int round = 0; round < LONGEST_WAY; round++) {
            for (int line = 0; line < lineCount; line++) {
                setBeforeWays(line);
            }
        }
    }

    private void setBeforeWays(int line) {
        int whole = lineFrom[line] * SUMS;
        int rest = lineTo[line] * SUMS;
        int p = lineP[line];
        for (int sum = p; sum < SUMS; sum++) {
            int q = leastQ[rest + sum - p] + lineQ[line];
            if (q < leastQ[whole + sum]) {
                leastQ[whole + sum] = q;
            }
        }
    }

    /** The least b such that the token can reach, at (a, b), the place findWaysTo was asked for. */
    private int earliestBOfToken(int token, int a) {
        int ways = tokenPlace[token] * SUMS;
        int room = a - tokenA[token];
        int least = NO_WAY;
        for (int p = 0; p <= room; p++) {
            int b = tokenB[token] + leastQ[ways + p];
            if (b < least) {
                least = b;
            }
        }
        return least;
    }

    private int earliestB(int a) {
        int least = NO_WAY;
        for (int token = 0; token < tokenCount; token++) {
            int b = earliestBOfToken(token, a);
            if (b < least) {
                least = b;
            }
        }
        return least;
    }

    /** Writes the front into frontTimes, the lesser a first, and answers how many times it has. */
    private int findFront(int place) {
        findWaysTo(place);
        int count = 0;
        int least = GREATEST_TIME + 1;
        for (int a = 0; a < TIME_NUMBERS; a++) {
            int b = earliestB(a);
            if (b < least) {
                least = b;
                frontTimes[count] = TIME_NUMBERS * a + b;
                count++;
            }
        }
        return count;
    }
}
