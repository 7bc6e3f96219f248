import java.io.IOException;
import java.lang.reflect.Method;
import java.nio.file.Files;
import java.nio.file.Path;
import java.util.ArrayList;
import java.util.List;
import java.util.regex.Matcher;
import java.util.regex.Pattern;

/**
 * Prints a program, ReadmeCalls, that makes the calls that README.md shows and holds their answers
 * against those that it gives. The argument is the class whose objects it asks: SeasonRows, as the
 * page says, or CountedRows, which sees to it that the page keeps within 512 calls of an object.
 */
public final class ReadmeSource {
    private static final Pattern BLOCK = Pattern.compile("(?ms)^```java\\n(.*?)^```$");
    private static final Pattern ANSWERED =
        Pattern.compile("(?:int (\\w+) = )?(\\w.*); +// (true|false|NONE|-?\\d+|\"[^\"]*\")(?:: .*)?");

    private final List<String> members = new ArrayList<>();
    private final List<String> statements = new ArrayList<>();
    private final StringBuilder answered = new StringBuilder();
    private final String face;

    private ReadmeSource(String face) {
        this.face = face;
    }

    public static void main(String[] args) throws IOException {
        ReadmeSource source = new ReadmeSource(args.length > 0 ? args[0] : "SeasonRows");
        source.read(Files.readString(Path.of("README.md")));
        source.lookForEveryCall();
        source.print();
    }

    private void read(String page) {
        Matcher blocks = BLOCK.matcher(page);
        while (blocks.find()) {
            boolean isMember = blocks.group(1).startsWith("static ");
            for (String line : blocks.group(1).split("\n")) {
                if (isMember) {
                    members.add(line);
                } else {
                    readStatement(line);
                }
            }
        }
    }

    private void readStatement(String line) {
        Matcher parts = ANSWERED.matcher(line);
        if (!parts.matches()) {
            if (line.startsWith("x.") || line.startsWith("text(") || line.contains("//")) {
                refuse("README.md shows a call without an answer: " + line);
            }
            statements.add(line);
            return;
        }
        String call = parts.group(2);
        String got = call;
        if (parts.group(1) != null) {
            got = parts.group(1);
            statements.add("int " + got + " = " + call + ";");
        }
        answered.append(call).append('\n');
        statements.add("due(\"" + call + "\", " + got + ", " + parts.group(3) + ");");
    }

    /** A page that has lost its calls, or some of them, would otherwise pass unseen. */
    private void lookForEveryCall() {
        for (Method m : SeasonRows.class.getDeclaredMethods()) {
            boolean isPublic = java.lang.reflect.Modifier.isPublic(m.getModifiers());
            if (isPublic && answered.indexOf("x." + m.getName() + "(") < 0) {
                refuse("README.md shows no answer of " + m.getName());
            }
        }
    }

    private static void refuse(String why) {
        System.err.println(why);
        System.exit(1);
    }

    private void print() {
        List<String> all = new ArrayList<>();
        all.add("public final class ReadmeCalls {");
        all.add("static final int NONE = SeasonRows.NONE;");
        all.add("static int calls = 0;");
        all.add("static int wrong = 0;");
        all.add("static void due(String call, Object got, Object want) {");
        all.add("calls++;");
        all.add("if (!got.equals(want)) { wrong++; System.out.println(");
        all.add("\"README.md: \" + call + \" answered \" + got + \", there it is \" + want); } }");
        all.addAll(members);
        all.add("public static void main(String[] args) {");
        all.addAll(statements);
        all.add("System.out.println(calls + \" answers of README.md, \" + wrong + \" wrong\");");
        all.add("if (wrong != 0) { System.exit(1); } } }");
        for (String line : all) {
            System.out.println(line.replaceAll("\\bSeasonRows\\b", face));
        }
    }
}
