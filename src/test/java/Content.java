import java.util.function.ToIntFunction;

/** What an object holds: its lines in their order, and its tokens. */
final class Content {
    static final Content NONE = new Content(new int[][] {}, new int[][] {});
    static final Content SOME = new Content(
        new int[][] {{0, 1, 1, 2}, {1, 2, 0, 3}, {2, 2, 2, 0}, {6, 0, 3, 1}},
        new int[][] {{0, 1, 1}, {0, 1, 1}, {2, 0, 15}, {6, 15, 3}, {6, 4, 0}});
    static final Content FULL = new Content(
        new int[][] {{0, 1, 1, 2}, {1, 2, 0, 3}, {2, 3, 2, 0}, {3, 4, 3, 1}, {4, 5, 0, 0}, {5, 6, 3, 3},
            {6, 0, 3, 2}, {0, 0, 1, 0}, {6, 6, 0, 1}, {6, 5, 2, 2}, {3, 0, 1, 3}, {0, 1, 1, 2}},
        new int[][] {{0, 0, 0}, {0, 15, 15}, {0, 1, 1}, {0, 1, 1}, {1, 0, 15}, {1, 15, 0}, {1, 1, 1},
            {2, 3, 9}, {2, 9, 3}, {2, 3, 9}, {3, 12, 14}, {3, 13, 14}, {4, 15, 15}, {4, 0, 0}, {5, 8, 8},
            {5, 8, 7}, {6, 12, 13}, {6, 13, 12}, {6, 14, 14}, {6, 1, 1}});
    private static final Content[] EACH = {NONE, SOME, FULL};

    final int[][] lines;
    final int[][] tokens;

    Content(int[][] lines, int[][] tokens) {
        this.lines = lines;
        this.tokens = tokens;
    }

    static Content ofLines(int[]... lines) {
        return new Content(lines, new int[][] {});
    }

    static Content ofTokens(int[]... tokens) {
        return new Content(new int[][] {}, tokens);
    }

    /** Calls on a fresh object of each content: it is refused, and changes nothing. */
    static void refused(Checks checks, String what, ToIntFunction<FrontierWatch> call) {
        for (Content content : EACH) {
            content.unchanged(checks, what, -1, call);
        }
    }

    void unchanged(Checks checks, String what, int want, ToIntFunction<FrontierWatch> call) {
        becomes(checks, what, want, call, this);
    }

    void becomes(Checks checks, String what, int want, ToIntFunction<FrontierWatch> call, Content then) {
        FrontierWatch x = make();
        String where = what + " with " + lines.length + " lines, " + tokens.length + " tokens";
        checks.due(where, call.applyAsInt(x), want);
        then.allIn(checks, where, x);
    }

    FrontierWatch make() {
        FrontierWatch x = new FrontierWatch();
        for (int[] line : lines) {
            x.link(line[0], line[1], line[2], line[3]);
        }
        for (int[] token : tokens) {
            x.put(token[0], token[1], token[2]);
        }
        return x;
    }

    int callsToMake() {
        return lines.length + tokens.length;
    }

    /** Takes everything out of the object, so that all that it held, and no more, is seen. */
    void allIn(Checks checks, String what, FrontierWatch x) {
        for (int i = 0; i < tokens.length; i++) {
            checks.due(what + ", then take token " + i,
                x.take(tokens[i][0], tokens[i][1], tokens[i][2]), tokens.length - 1 - i);
        }
        for (int i = 0; i < lines.length; i++) {
            int[] line = lines[i];
            checks.due(what + ", then a token for line " + i, x.put(line[0], 7, 8), 1);
            checks.due(what + ", then pass along line " + i, x.pass(i, 7, 8), 0);
            checks.due(what + ", then take behind line " + i,
                x.take(line[1], 7 + line[2], 8 + line[3]), 0);
        }
        for (int i = lines.length - 1; i >= 0; i--) {
            checks.due(what + ", then unlink " + i, x.unlink(i), i);
        }
        checks.due(what + ", then a first token", x.put(0, 0, 0), 1);
        checks.due(what + ", then a first line", x.link(0, 0, 0, 0), 1);
    }
}
