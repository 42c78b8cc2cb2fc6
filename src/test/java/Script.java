/** Calls as lines of text: "route 0 1 0 9 = 0" asks and looks at the answer, without "= .." it only asks. */
final class Script {
    private Script() {
    }

    static void run(Due due, String about, PalletRounds x, String... lines) {
        for (String line : lines) {
            for (String call : line.split(";")) one(due, about, x, call.trim());
        }
    }

    /** A new object on which the lines were run; none of their answers matters. */
    static PalletRounds made(String... lines) {
        PalletRounds x = new PalletRounds();
        run(null, "", x, lines);
        return x;
    }

    private static void one(Due due, String about, PalletRounds x, String call) {
        String[] sides = call.split("=");
        String[] words = sides[0].trim().split(" +");
        long[] given = new long[words.length - 1];
        for (int i = 0; i < given.length; i++) given[i] = number(words[i + 1]);
        countIsRight(words[0], given.length);
        long got = Pair.ask(x, words[0], given);
        if (sides.length > 1) due.is(about + ": " + sides[0].trim(), got, number(sides[1].trim()));
    }

    private static void countIsRight(String name, int given) {
        for (int k = 0; k < Pair.NAMES.length; k++) {
            if (Pair.NAMES[k].equals(name) && Pair.COUNTS[k] == given) return;
        }
        throw new IllegalArgumentException(name + " with " + given + " numbers");
    }

    static long number(String word) {
        switch (word) {
            case "NONE": return PalletRounds.NONE;
            case "BAD": return PalletRounds.BAD;
            case "STATE": return PalletRounds.STATE;
            case "FULL": return PalletRounds.FULL;
            case "NO": return PalletRounds.NO;
            case "MIN": return Integer.MIN_VALUE;
            case "MAX": return Integer.MAX_VALUE;
            case "LEAST": return Long.MIN_VALUE;
            case "MOST": return Long.MAX_VALUE;
            default: return Long.parseLong(word);
        }
    }
}
