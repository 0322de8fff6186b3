import java.io.IOException;
import java.nio.file.Files;
import java.nio.file.Path;
import java.util.ArrayList;
import java.util.List;
import java.util.regex.Matcher;
import java.util.regex.Pattern;

/** README.md tells of each call by the names that the class gives its arguments, and its example works as told. */
public final class ReadmeTest {
    private static final Pattern CALL = Pattern.compile("public (?:int|float) (\\w+)\\(([^)]*)\\)");

    public static void main(String[] args) throws IOException {
        String readme = Files.readString(Path.of("README.md"));
        List<String> calls = callsOfTheClass();
        Check.due("calls of the class", 18, calls::size);
        for (String call : calls) {
            Check.due("README.md tells of " + call, true, () -> readme.contains("| `" + call + "` |"));
        }
        Check.due("the example of README.md", exampleAsRunHere(), () -> exampleOf(readme));
        runExample();
        Check.end();
    }

    private static List<String> callsOfTheClass() throws IOException {
        List<String> calls = new ArrayList<>();
        Matcher found = CALL.matcher(Files.readString(Path.of("src/main/java/StitchBanner.java")));
        while (found.find()) {
            calls.add(found.group(1) + "(" + found.group(2).replaceAll("(int|boolean) ", "") + ")");
        }
        return calls;
    }

    private static String exampleOf(String readme) {
        int start = readme.indexOf("```java\n") + "```java\n".length();
        return withoutIndents(readme.substring(start, readme.indexOf("```", start)));
    }

    private static String exampleAsRunHere() throws IOException {
        String test = Files.readString(Path.of("tests/ReadmeTest.java"));
        String begin = "// the example begins\n";
        int start = test.indexOf(begin, test.indexOf("void runExample()")) + begin.length();
        return withoutIndents(test.substring(start, test.indexOf("// the example ends", start)));
    }

    /** The two stand at different depths. */
    private static String withoutIndents(String lines) {
        return lines.replaceAll("(?m)^ +", "").strip();
    }

    private static void runExample() {
        // the example begins
        StitchBanner shop = new StitchBanner();
        int banner = shop.begin(12, 6, 2, 15, 5);   // columns, width, overlap, limit of ink, due time
        shop.fill(banner, 0, 0, 12, 9);             // row 0, columns 0 to 11, level 9
        for (int strip = 0; strip < shop.strips(banner); strip++) {
            shop.put(banner, strip, 0);             // into the queue of printer 0
        }
        shop.pass(20);                              // 20 ticks later
        int worst = shop.seam(banner, 0);           // error where strips 0 and 1 meet
        float mean = shop.meanError(banner);
        // the example ends
        Check.due("the example's strips are all printed", 0, () -> shop.prints(0));
        Check.due("the example's seam", 0, () -> worst);
        Check.due("the example's mean error", 0f, () -> mean);
    }
}
