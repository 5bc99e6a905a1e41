import java.io.IOException;
import java.nio.file.Files;
import java.nio.file.Path;

/** The example of README.md: its lines are those below, and answer what it tells. */
public final class ReadmeTest {
    private static int wrong = 0;
    private static String readme;

    private static void due(String line, long got, long want) {
        if (!readme.contains(line)) {
            wrong++;
            System.out.println("README.md has no line " + line);
        }
        if (got != want) {
            wrong++;
            System.out.println(line + " answered " + got + ", due is " + want);
        }
    }

    public static void main(String[] args) throws IOException {
        readme = Files.readString(Path.of("README.md"));
        SinkingChoir x = new SinkingChoir();
        due("x.note(0, 0, 12, 1, 1); ", x.note(0, 0, 12, 1, 1) ? 1 : 0, 1);
        due("x.note(0, 1, 12, 10, 9); ", x.note(0, 1, 12, 10, 9) ? 1 : 0, 1);
        due("x.torn(0, 1); ", x.torn(0, 1), 182404);
        due("x.link(1, 0); ", x.link(1, 0) ? 1 : 0, 1);
        due("x.torn(0, 1); ", x.torn(0, 1), 0);
        due("x.sink(0); ", x.sink(0), -182404);
        due("x.singer(0, 0, 5, 0); ", x.singer(0, 0, 5, 0), 0);
        due("x.feed(0x73312831, 0x3d312920, 0, 0, 0); ", x.feed(0x73312831, 0x3d312920, 0, 0, 0), 20);
        due("x.text(7); ", x.text(7), 1);
        due("x.pitch(0, 1); ", x.pitch(0, 1), 1200000);
        due("x.link(0, 0); ", x.link(0, 0) ? 1 : 0, 0);
        due("x.count(1); ", x.count(1), 0);
        System.out.println(wrong == 0 ? "the example is as the class answers" : wrong + " lines are not so");
        if (wrong != 0) {
            System.exit(1);
        }
    }
}
