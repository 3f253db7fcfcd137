import java.io.File;
import java.io.IOException;
import java.lang.reflect.Method;
import java.lang.reflect.Modifier;
import java.nio.charset.StandardCharsets;
import java.nio.file.Files;
import java.nio.file.Paths;

/** README.md tells what stands: its calls answer as it says, and all calls and tests are named; started in the folder of the project. */
public final class ReadmeTests {
    private interface Call {
        long on(SleeperBerths car);
    }

    private static final class Line {
        final String words;
        final long answer;
        final Call call;

        Line(String words, long answer, Call call) {
            this.words = words;
            this.answer = answer;
            this.call = call;
        }
    }

    private static final Line[] EXAMPLE = {
        new Line("car.book(0, 9, false);", 0, car -> car.book(0, 9, false)),
        new Line("car.place(0, 5);", 0, car -> car.place(0, 5)),
        new Line("car.passenger(0, 4);", 5, car -> car.passenger(0, 4)),
        new Line("car.book(0, 4, true);", 1, car -> car.book(0, 4, true)),
        new Line("car.whyNot(0, 9);", 0, car -> car.whyNot(0, 9)),
        new Line("car.append('2');", 1, car -> car.append('2')),
        new Line("car.append('-');", 2, car -> car.append('-')),
        new Line("car.append('4');", 3, car -> car.append('4')),
        new Line("car.bookAll();", 1, SleeperBerths::bookAll),
        new Line("car.count(0);", 3, car -> car.count(0)),
        new Line("car.cancel(1);", 9, car -> car.cancel(1)),
        new Line("car.undo();", 4, SleeperBerths::undo),
        new Line("car.holder(0, 3);", 1, car -> car.holder(0, 3)),
    };

    private static int wrong = 0;

    public static void main(String[] args) throws IOException {
        String readme = new String(Files.readAllBytes(Paths.get("README.md")), StandardCharsets.UTF_8);
        checkExample(readme);
        checkCalls(readme);
        checkTests(readme);
        System.out.println(wrong == 0 ? "README.md tells what stands" : wrong + " faults of README.md");
        if (wrong != 0) {
            System.exit(1);
        }
    }

    /** The lines of the example, and no others, stand in README.md, and the class answers as they say. */
    private static void checkExample(String readme) {
        StringBuilder due = new StringBuilder("SleeperBerths car = new SleeperBerths();\n");
        SleeperBerths car = new SleeperBerths();
        for (Line line : EXAMPLE) {
            due.append(line.words).append(" // ").append(line.answer).append('\n');
            check(line.call.on(car) == line.answer, line.words + " answers " + line.answer);
        }
        int begin = readme.indexOf("```java\n") + "```java\n".length();
        int end = readme.indexOf("```", begin);
        String told = end < 0 ? "" : readme.substring(begin, end).replaceAll(" +", " ");
        check(told.equals(due.toString()), "the example is the one that is tried here");
    }

    private static void checkCalls(String readme) {
        for (Method method : SleeperBerths.class.getDeclaredMethods()) {
            if (Modifier.isPublic(method.getModifiers())) {
                int names = 0;
                for (String row : readme.split("\n")) {
                    names += row.startsWith("| `" + method.getName() + "(") ? 1 : 0;
                }
                check(names == 1, "a row of its own for " + method.getName() + "()");
            }
        }
    }

    private static void checkTests(String readme) {
        String[] names = new File("src/test/java").list();
        check(names != null && names.length > 0, "there are tests");
        for (String name : names == null ? new String[0] : names) {
            String told = name.startsWith("EdgesOf") ? "EdgesOf*.java" : name;
            check(readme.contains("`src/test/java/" + told + "`"), "the test " + name + " is named");
        }
    }

    private static void check(boolean holds, String what) {
        if (!holds) {
            wrong++;
            System.out.println("not so: " + what);
        }
    }
}
