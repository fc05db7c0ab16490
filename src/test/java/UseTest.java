import java.io.IOException;
import java.lang.reflect.Method;
import java.lang.reflect.Modifier;
import java.nio.file.Files;
import java.nio.file.Path;
import java.util.ArrayList;
import java.util.List;
import java.util.stream.Stream;

/** What README.md shows: its examples stand here line by line, so that they compile and answer as it says. */
public final class UseTest {
    private static final Path README = Path.of("README.md");
    private static final Path TESTS = Path.of("src/test/java");

    private UseTest() {
    }

    public static void main(String[] args) throws IOException {
        examples();
        readmeHasTheseExamples();
        readmeNamesEachTest();
        readmeNamesEachCall();
        Due.finish();
    }

    private static void examples() {
        PartBox box = new PartBox();

        box.feed(0x6F6E6500, 0, 0, 0, 0);   // twenty bytes onto the row, the highest of each word first
        box.end(3);                         // the first three are left: o n e
        box.type(0x61);                     // the name: a
        int entry = box.add();              // 0: a stored entry; the row and the name stay

        box.erase();                        // another name
        box.type(0x622F63);                 // b/c
        box.addPacked(9, 0x1234);           // 1: the row as bytes that are packed already, of size 9
        box.move(1, 0);                     // b/c is now entry 0, and a entry 1
        int found = box.find();             // 0: the name is still b/c

        int length = box.write();           // 188: the row is now the written box
        int fault = box.read(65536);        // 0: the box has the row's entries

        Due.is("add()", entry, 0);
        Due.is("find()", found, 0);
        Due.is("write()", length, 188);
        Due.is("read(65536)", fault, 0);
        Due.packedIs(box, 0, "b/c", "one", 9, 0x1234);
        Due.storedIs(box, 1, "a", "one");
        Due.is("the row stays", box.length(), length);

        box.alter(67, 0x4F);                // the first byte of a
        fault = box.read(65536);            // 11: its check is not that of its bytes
        int place = box.blame(1);           // 67: its first byte
        int blamed = box.blame(2);          // 1: by the directory; the box is as it was

        Due.is("read(65536) again", fault, 11);
        Due.is("blame(1)", place, 67);
        Due.is("blame(2)", blamed, 1);
        Due.storedIs(box, 1, "a", "one");
    }

    /** Empty lines are no matter, nor is how far a line stands from the left. */
    private static List<String> lines(Path file) throws IOException {
        try (Stream<String> lines = Files.lines(file)) {
            return lines.map(String::strip).filter(line -> !line.isEmpty()).toList();
        }
    }

    private static void readmeHasTheseExamples() throws IOException {
        List<String> here = lines(TESTS.resolve("UseTest.java"));
        List<String> shown = new ArrayList<>();
        boolean inside = false;
        for (String line : lines(README)) {
            if (line.startsWith("```")) {
                inside = line.equals("```java");
            } else if (inside) {
                shown.add(line);
            }
        }
        Due.isTrue("README shows examples", !shown.isEmpty());
        int at = 0;
        for (String line : shown) {
            int next = at + here.subList(at, here.size()).indexOf(line);
            Due.isTrue("README's line stands in UseTest, in its order: " + line, next >= at);
            at = Math.max(at, next + 1);
        }
    }

    private static void readmeNamesEachTest() throws IOException {
        String readme = Files.readString(README);
        try (Stream<Path> tests = Files.list(TESTS)) {
            for (Path test : tests.toList()) {
                String name = test.getFileName().toString().replace(".java", "");
                Due.isTrue("README names " + name, readme.contains("`" + name + "`"));
            }
        }
    }

    private static void readmeNamesEachCall() throws IOException {
        String readme = Files.readString(README);
        for (Method method : PartBox.class.getDeclaredMethods()) {
            if (Modifier.isPublic(method.getModifiers())) {
                Due.isTrue("README names " + method, readme.contains("`" + method.getName() + "("));
            }
        }
    }
}
