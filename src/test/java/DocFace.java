import java.io.IOException;
import java.nio.file.Files;
import java.nio.file.Path;
import java.util.ArrayList;
import java.util.Arrays;
import java.util.List;
import java.util.regex.Matcher;
import java.util.regex.Pattern;

/** The calls of the public face, as the document's section of this name shows them. */
final class DocFace {
    private static final Pattern CALL =
            Pattern.compile("    public (int|long|double) (\\w+)\\((.*?)\\)(?: throws (.*))?;");

    /** The types, the names of the parameters and the exceptions stand in the document's order. */
    record Call(String type, String name, List<String> types, List<String> parameters, List<String> exceptions) {
    }

    private DocFace() {
    }

    static List<Call> calls() throws IOException {
        List<Call> found = new ArrayList<>();
        for (String line : Files.readAllLines(Path.of("../shared/DOC.md"))) {
            Matcher matcher = CALL.matcher(line);
            if (matcher.matches()) {
                List<String> parameters = words(matcher.group(3));
                found.add(new Call(matcher.group(1), matcher.group(2),
                        parameters.stream().map(parameter -> parameter.split(" ")[0]).toList(),
                        parameters.stream().map(parameter -> parameter.split(" ")[1]).toList(),
                        words(matcher.group(4))));
            }
        }
        return found;
    }

    private static List<String> words(String list) {
        return list == null || list.isEmpty() ? List.of() : Arrays.asList(list.split(", "));
    }
}
