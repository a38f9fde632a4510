import java.io.IOException;
import java.nio.file.Files;
import java.nio.file.Path;
import java.util.List;

/** The courses that README.md tells: each call's answer is the one that stands behind it there. */
public final class CourseTest {
    private static List<String> readme;
    private static int line;

    public static void main(String[] args) throws IOException {
        readme = Files.readAllLines(Path.of("README.md"));
        TaggedPascal machine = new TaggedPascal();
        feed(machine, "var n:integer; begin read(n); write(n*n) end.");
        tells("machine.compile();", machine.compile());
        tells("machine.fault();", machine.fault());
        tells("machine.place();", machine.place());
        tells("machine.wipe();", machine.wipe());
        feed(machine, "12");
        tells("machine.input();", machine.input());
        tells("machine.run(20000);", machine.run(20000));
        tells("machine.where();", machine.where());
        tells("machine.written();", machine.written());
        tells("machine.text(0);", machine.text(0));
        for (int what = 0; what < 4; what++) {
            tells("machine.told(" + what + ");", machine.told(what));
        }
        goesWrong(machine);
        Check.finish();
    }

    private static void goesWrong(TaggedPascal machine) {
        tells("machine.input();", machine.input());
        tells("machine.run(20000);", machine.run(20000));
        tells("machine.where();", machine.where());
        feed(machine, "begin m := 1 end.");
        tells("machine.compile();", machine.compile());
        tells("machine.fault();", machine.fault());
        tells("machine.place();", machine.place());
        tells("machine.run(1);", machine.run(1));
        tells("machine.run(0);", machine.run(0));
    }

    private static void feed(TaggedPascal machine, String text) {
        find("feed(machine, \"" + text + "\");");
        Check.feed(machine, text);
    }

    /** The line of README.md behind the last one that was found which begins so. */
    private static String find(String beginning) {
        while (line < readme.size()) {
            String found = readme.get(line);
            line++;
            if (found.startsWith(beginning)) {
                return found;
            }
        }
        Check.due("README.md", "no line " + beginning, beginning);
        return beginning + " // NONE";
    }

    private static void tells(String call, long got) {
        String due = find(call).replaceFirst(".*// ", "").split("[ ,]")[0];
        Check.due(call + " in README.md", got, due.equals("NONE") ? TaggedPascal.NONE : Long.decode(due));
    }
}
