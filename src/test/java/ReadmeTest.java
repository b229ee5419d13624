import java.io.IOException;
import java.nio.file.Files;
import java.nio.file.Path;

/** The example of README.md does what it says there. */
public final class ReadmeTest {
    private static final Checks CHECKS = new Checks();

    public static void main(String[] args) throws IOException {
        example();
        everyLineOfTheExampleIsRunHere();
        CHECKS.end();
    }

    private static void example() {
        PackFrames x = new PackFrames();
        x.write(8, 0x6162636162636162L);
        x.write(7, 0x63616263616263L);
        String written = Bytes.contentOf(x);
        CHECKS.due("CONTENT", written, Bytes.show(Bytes.text("abcabcabcabcabc")));
        int length = x.pack(true);
        CHECKS.due("length", length, 16);
        CHECKS.due("the wire has it", x.wire(-1), 16);
        x.clear();
        int size = x.unpack();
        CHECKS.due("size", size, 15);
        CHECKS.due("CONTENT is what it was", Bytes.contentOf(x), written);
        int first = x.content(0);
        CHECKS.due("first", first, 97);
        x.skip(2);
        CHECKS.due("4 bytes more", x.wire(-1), 20);
        CHECKS.due("that say nothing", x.unpack(), 15);
        x.spoil(7, 1);
        int refused = x.unpack();
        CHECKS.due("refused", refused, -1);
        CHECKS.due("CONTENT stays", Bytes.contentOf(x), written);
    }

    // An example that is run here but shown otherwise would prove nothing.
    private static void everyLineOfTheExampleIsRunHere() throws IOException {
        String readme = Files.readString(Path.of("README.md"));
        String here = Files.readString(Path.of("src/test/java/ReadmeTest.java"));
        String shown = readme.split("```java\n")[1].split("```")[0];
        for (String line : shown.split("\n")) {
            String call = line.replaceAll(" *//.*", "");
            CHECKS.due("is run: " + call, here.contains("\n        " + call + "\n"), true);
        }
    }
}
