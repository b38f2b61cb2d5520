import java.io.IOException;
import java.nio.file.Files;
import java.nio.file.Path;
import java.util.ArrayList;
import java.util.List;

/** README.md's example: each of its lines stands in this file, too, and answers what README.md says of it. */
public final class ReadmeExample extends Checks {
    private static List<String> codeOf(String readme) {
        int begin = readme.indexOf("```java\n") + 8;
        List<String> code = new ArrayList<>();
        for (String line : readme.substring(begin, readme.indexOf("```", begin)).split("\n")) {
            code.add(line.replaceAll(" *//.*", ""));
        }
        return code;
    }

    private static int saidOf(String readme, String name) {
        String said = readme.replaceAll("(?s).*\\w " + name + " = [^/\n]*// ([\\w.-]+).*", "$1");
        return switch (said) {
            case "WideMachine.OK" -> WideMachine.OK;
            case "WideMachine.NONE" -> WideMachine.NONE;
            case "true" -> 1;
            default -> Integer.parseInt(said);
        };
    }

    public static void main(String[] args) throws IOException {
        String readme = Files.readString(Path.of("README.md"));
        List<String> here = Files.readAllLines(Path.of("src/test/java/ReadmeExample.java"));
        here.replaceAll(String::trim);
        for (String line : codeOf(readme)) {
            due("the example's line " + line + " stands here", here.contains(line), true);
        }
        WideMachine x = new WideMachine();
        x.put(0, x.code(4, 1, 0, 0, 5));
        x.put(1, x.code(3, 2, 1, 1, 0));
        x.put(2, x.code(0, 0, 0, 0, 0));
        int end = x.run();
        int square = x.register(2);
        int pc = x.register(8);
        int time = x.taken(0);
        int second = x.cycle(0, 1);
        int first = x.kept(0);
        x.set(8, 0);
        int again = x.run();
        int timeOfBoth = x.taken(0);
        boolean changed = x.put(1, 0);
        int left = x.kept(0);
        due("end", end, saidOf(readme, "end"));
        due("square", square, saidOf(readme, "square"));
        due("pc", pc, saidOf(readme, "pc"));
        due("time", time, saidOf(readme, "time"));
        due("second", second, saidOf(readme, "second"));
        due("first", first, saidOf(readme, "first"));
        due("again", again, saidOf(readme, "again"));
        due("timeOfBoth", timeOfBoth, saidOf(readme, "timeOfBoth"));
        due("changed", changed ? 1 : 0, saidOf(readme, "changed"));
        due("left", left, saidOf(readme, "left"));
        end();
    }
}
