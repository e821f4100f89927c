import java.io.IOException;
import java.lang.reflect.Method;
import java.lang.reflect.Modifier;
import java.nio.charset.StandardCharsets;
import java.nio.file.Files;
import java.nio.file.Path;
import java.util.List;

/** README.md: its example answers what it says, and each call of the face has a row in its table. */
final class ReadmeTest {
    private static final int NOT_THERE = -1;
    private static List<String> example;
    private static int played = 0;

    private ReadmeTest() {
    }

    /** The example's next line is this call, and says that it answers this. */
    private static void says(String call, Object answer) {
        String line = played < example.size() ? example.get(played) : "";
        played++;
        boolean isSo = line.startsWith(call + ";") && line.replaceAll(".*// ", "").matches(answer + "(:.*)?");
        Check.due("\"" + line + "\" tells " + call + ": " + answer, isSo, true);
    }

    private static void example(String text) {
        int from = text.indexOf("```java\n") + 8;
        example = text.substring(from, text.indexOf("```", from)).lines().toList();
        Check.due("the example's first line", example.get(0).equals("GiantHeart x = new GiantHeart();"), true);
        played = 1;
        GiantHeart x = new GiantHeart();
        says("x.way(0, 1, 5)", x.way(0, 1, 5));
        says("x.place(0, 0, GiantHeart.NONE, GiantHeart.NONE)", x.place(0, 0, GiantHeart.NONE, GiantHeart.NONE));
        says("x.place(1, 1, GiantHeart.NONE, 3)", x.place(1, 1, GiantHeart.NONE, 3));
        says("x.key(3, 0)", x.key(3, 0));
        says("x.heart(1)", x.heart(1));
        says("x.soonest(0)", x.soonest(0));
        says("x.plan(GiantHeart.NONE)", x.plan(GiantHeart.NONE));
        says("x.plan(0)", x.plan(0));
        says("x.feed('o' << 24 | '0' << 16 | ',' << 8 | 'g', '1' << 24 | ',' << 16 | 'o' << 8 | '1', 0, 0, 0)",
            x.feed('o' << 24 | '0' << 16 | ',' << 8 | 'g', '1' << 24 | ',' << 16 | 'o' << 8 | '1', 0, 0, 0));
        says("x.tale(8, 1)", x.tale(8, 1));
        says("x.tale(8, 1)", x.tale(8, 1));
        says("x.soonest(2)", x.soonest(2));
        Check.due("lines of the example", played, example.size());
    }

    private static void rows(String text) {
        for (Method m : GiantHeart.class.getDeclaredMethods()) {
            if (!Modifier.isPublic(m.getModifiers())) {
                continue;
            }
            int many = 0;
            int parameters = NOT_THERE;
            for (String line : text.lines().toList()) {
                if (line.startsWith("| `" + m.getName() + "(")) {
                    many++;
                    String in = line.substring(line.indexOf('(') + 1, line.indexOf(')'));
                    parameters = in.isEmpty() ? 0 : in.split(",").length;
                }
            }
            Check.due("rows of " + m.getName(), many, 1);
            Check.due("parameters of " + m.getName(), parameters, m.getParameterCount());
        }
    }

    public static void main(String[] args) throws IOException {
        String text = Files.readString(Path.of("README.md"), StandardCharsets.UTF_8);
        example(text);
        rows(text);
        Check.end("ReadmeTest");
    }
}
