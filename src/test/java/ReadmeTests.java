import java.io.File;
import java.lang.reflect.Method;
import java.lang.reflect.Modifier;
import java.nio.file.Files;
import java.nio.file.Path;

/** What README.md says of the class: its lines of code stand here too, and answer what it tells. */
public final class ReadmeTests {
    private static int wrong = 0;

    private static void due(String what, String got, String want) {
        if (!got.equals(want)) {
            wrong++;
            System.out.println("README: " + what + " is " + got + ", due is " + want);
        }
    }

    public static void main(String[] args) throws Exception {
        String readme = Files.readString(Path.of("README.md"));
        lines(readme);
        answers(readme);
        names(readme);
        System.out.println(wrong == 0 ? "ReadmeTests: all as due" : "ReadmeTests: " + wrong + " not as due");
        if (wrong != 0) {
            System.exit(1);
        }
    }

    private static String code(String readme) {
        int from = readme.indexOf("```java\n");
        int to = readme.indexOf("\n```\n", from);
        return from < 0 || to < 0 ? "" : readme.substring(from + 8, to);
    }

    /** Each line of the page's code stands in this file. */
    private static void lines(String readme) throws Exception {
        String here = Files.readString(Path.of("src/test/java/ReadmeTests.java"));
        String[] lines = code(readme).split("\n");
        due("so many lines of code", lines.length > 9 ? "some" : "none", "some");
        for (String line : lines) {
            String call = line.replaceAll("//.*", "").trim();
            due("\"" + call + "\" here", "" + here.contains("\n        " + call + "\n"), "true");
        }
    }

    private static void answers(String readme) {
        EchoValley valley = new EchoValley();
        valley.feed(0x77616c6c, 0x20772075, 0x70203920, 0x30203139, 0x203b2020);
        int fault = valley.read();
        int place = valley.place();
        valley.feed(0x77616c6c, 0x20772075, 0x70203920, 0x30203139, 0x20303b20);
        int fine = valley.read();
        int many = valley.returns(4, 5, 4, 9, 30);
        int time = valley.at(4, 5, 4, 9, 30, 1, 1);
        int high = valley.touch(4, 5, 4, 9, 10, 0, true);
        int beats = valley.beats(4, 5, 30, 250);
        boolean gone = valley.stands(0, false);
        int none = valley.beats(4, 5, 30, 250);
        int wrong = valley.beats(4, 20, 30, 250);
        told(readme, "fault", fault);
        told(readme, "place", place);
        told(readme, "fine", fine);
        told(readme, "many", many);
        told(readme, "time", time);
        told(readme, "high", high);
        told(readme, "beats", beats);
        told(readme, "gone", gone);
        told(readme, "none", none);
        told(readme, "wrong", wrong);
    }

    /** The page tells the answer behind the line that asks for it. */
    private static void told(String readme, String name, Object answer) {
        for (String line : code(readme).split("\n")) {
            if (line.matches("(int|boolean) " + name + " = .*")) {
                due(name, line.replaceAll(".*// ([^:]*):.*", "$1"), "" + answer);
                return;
            }
        }
        due(name, "not told", "told");
    }

    /** Every call and every test is named. */
    private static void names(String readme) {
        for (Method method : EchoValley.class.getDeclaredMethods()) {
            if (Modifier.isPublic(method.getModifiers())) {
                due("`" + method.getName() + "`", "" + readme.contains("`" + method.getName() + "`"), "true");
            }
        }
        String[] files = new File("src/test/java").list();
        due("src/test/java", files == null ? "not there" : "there", "there");
        for (String file : files == null ? new String[0] : files) {
            String name = file.replace(".java", "");
            due("`" + name + "`", "" + readme.contains("`" + name + "`"), "true");
        }
    }
}
