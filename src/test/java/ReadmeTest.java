import java.lang.reflect.Method;
import java.nio.charset.StandardCharsets;
import java.nio.file.Files;
import java.nio.file.Path;
import java.util.List;

/** The example of README.md stands here word for word, and its answers are as is said there. */
public final class ReadmeTest {
    private static final Check CHECK = new Check("ReadmeTest");

    private ReadmeTest() {
    }

    private static void example() {
        StarchedCollars collars = new StarchedCollars();
        int elder = collars.man(4, 6, 0, 15);          // kind, v, place, creed: its number, 0
        int told = collars.man(6, 2, 3, 255);          // 1
        for (char sign : "burst 40;starch 9 k=4&h<3".toCharArray()) {
            collars.feed(sign);
        }
        int town = collars.town();                     // the number of the town that holds now, 0
        int goes = collars.when(elder);                // its stud goes behind 3 weeks
        int seen = collars.of(told, 8);                // whom it sees, as bits: the elder, 1
        int apart = collars.apart(elder, told);        // four articles are held by one of them alone, 4
        collars.image();
        collars.pass(3);
        int gone = collars.told(2);                    // whose studs are gone, as bits: the elder's, 1
        collars.undo();
        int height = collars.of(elder, 4);             // as it was when the image was taken, 0

        CHECK.due("elder", elder, 0);
        CHECK.due("told", told, 1);
        CHECK.due("town", town, 0);
        CHECK.due("goes", goes, 3);
        CHECK.due("seen", seen, 1);
        CHECK.due("apart", apart, 4);
        CHECK.due("gone", gone, 1);
        CHECK.due("height", height, 0);
    }

    private static List<String> lines(String path) throws Exception {
        return Files.readAllLines(Path.of(path), StandardCharsets.UTF_8);
    }

    private static void isWordForWord() throws Exception {
        List<String> readme = lines("README.md");
        int from = readme.indexOf("```java") + 1;
        int to = from + readme.subList(from, readme.size()).indexOf("```");
        CHECK.isTrue("README.md has an example", from > 0 && to > from);
        StringBuilder example = new StringBuilder();
        for (String line : readme.subList(from, to)) {
            example.append("        ").append(line).append('\n');
        }
        String here = String.join("\n", lines("src/test/java/ReadmeTest.java"));
        CHECK.isTrue("the example stands in ReadmeTest", here.contains(example));
    }

    /** Each public call is named in README.md. */
    private static void namesEachCall() throws Exception {
        String readme = String.join("\n", lines("README.md"));
        for (Method m : StarchedCollars.class.getMethods()) {
            if (m.getDeclaringClass() == StarchedCollars.class) {
                CHECK.isTrue("README.md names " + m.getName(), readme.contains("`" + m.getName() + "`"));
            }
        }
    }

    public static void main(String[] args) throws Exception {
        example();
        isWordForWord();
        namesEachCall();
        CHECK.end();
    }
}
