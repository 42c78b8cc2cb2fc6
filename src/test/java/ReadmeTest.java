import java.nio.file.Files;
import java.nio.file.Path;
import java.util.regex.Matcher;
import java.util.regex.Pattern;

/** README.md says how to use the class: its example answers what stands beside it, its table names each call once. */
public final class ReadmeTest {
    private static final Due DUE = new Due();

    public static void main(String[] args) throws Exception {
        String text = Files.readString(Path.of("README.md"));
        exampleAnswers(text);
        tableIsWhole(text);
        DUE.end();
    }

    private static void exampleAnswers(String text) {
        PalletRounds x = new PalletRounds();
        Matcher line = Pattern.compile("(?m)^x\\.(\\w+)\\(([^)]*)\\); *// (-?\\d+)\\b").matcher(text);
        int lines = 0;
        while (line.find()) {
            String call = line.group(1) + " " + line.group(2).replace(",", "");
            Script.run(DUE, "README", x, call.trim() + " = " + line.group(3));
            lines++;
        }
        DUE.is("each line of the example is asked", lines, text.split("(?m)^x\\.").length - 1);
    }

    private static void tableIsWhole(String text) {
        StringBuilder named = new StringBuilder(" ");
        Matcher row = Pattern.compile("(?m)^\\| `([^`]*)`").matcher(text);
        while (row.find()) named.append(row.group(1)).append(' ');
        for (String name : Pair.NAMES) {
            DUE.is("how often the table names " + name, named.toString().split(" " + name + "(?= )", -1).length - 1, 1);
        }
        DUE.is("calls in the table", named.toString().trim().split(" ").length, Pair.NAMES.length);
    }
}
