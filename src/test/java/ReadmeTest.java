import java.io.IOException;
import java.lang.reflect.Method;
import java.lang.reflect.Modifier;
import java.nio.file.Files;
import java.nio.file.Path;
import java.util.List;
import java.util.Set;
import java.util.TreeSet;
import java.util.regex.Matcher;
import java.util.regex.Pattern;

/** What README.md says of the class: its face, and an example whose answers are those that the class gives. */
public final class ReadmeTest {
    private static final Pattern DECLARED = Pattern.compile("\\s*public (\\w+) (\\w+)\\((\\w*)\\s*\\w*\\);.*");
    private static final Pattern TYPED = Pattern.compile("for \\(char c : \"(.*)\"\\.toCharArray\\(\\)\\) \\{");
    private static final Pattern CALLED = Pattern.compile("\\s*x\\.(\\w+)\\((-?\\w*)\\);\\s*// (-?\\w+).*");
    private static final Check CHECK = new Check();

    public static void main(String[] args) throws IOException {
        List<String> lines = Files.readAllLines(Path.of("README.md"));
        face(blockAfter(lines, "## The face"));
        example(blockAfter(lines, "## An example"));
        CHECK.end();
    }

    private static List<String> blockAfter(List<String> lines, String heading) {
        int from = lines.indexOf(heading);
        int to = from;
        while (to < lines.size() && !lines.get(to).equals("```")) {
            to++;
        }
        CHECK.same("README.md has the heading " + heading + " and code under it", from >= 0 && to < lines.size(), true);
        return lines.subList(Math.max(from, 0), to);
    }

    private static void face(List<String> block) {
        Set<String> told = new TreeSet<>();
        for (String line : block) {
            Matcher m = DECLARED.matcher(line);
            if (m.matches()) {
                told.add(m.group(1) + " " + m.group(2) + "(" + m.group(3) + ")");
            }
        }
        Set<String> real = new TreeSet<>();
        for (Method m : ReactWires.class.getDeclaredMethods()) {
            if (Modifier.isPublic(m.getModifiers())) {
                String parameter = m.getParameterCount() == 0 ? "" : m.getParameterTypes()[0].toString();
                real.add(m.getReturnType() + " " + m.getName() + "(" + parameter + ")");
            }
        }
        CHECK.same("the face that README.md tells", told.toString(), real.toString());
    }

    private static void example(List<String> block) {
        ReactWires x = new ReactWires();
        Set<String> called = new TreeSet<>();
        String text = "";
        for (String line : block) {
            Matcher typed = TYPED.matcher(line);
            Matcher call = CALLED.matcher(line);
            if (typed.matches()) {
                text = typed.group(1);
            } else if (call.matches()) {
                called.add(call.group(1));
                String due = call.group(1).equals("wipe") ? "" : call.group(3);
                CHECK.same(line.strip(), answer(x, call.group(1), call.group(2), text), due);
            } else {
                CHECK.same("a call in the example that is not understood: " + line, line.contains("x."), false);
            }
        }
        CHECK.same("each method is in the example: " + called, called.size(), 11);
    }

    private static String answer(ReactWires x, String name, String argument, String text) {
        switch (name) {
            case "type":
                return typeAll(x, text);
            case "wipe":
                x.wipe();
                return "";
            case "load":
                return "" + x.load();
            case "react":
                return "" + x.react(Integer.parseInt(argument));
            case "restart":
                return "" + x.restart();
            case "outputs":
                return "" + x.outputs();
            case "open":
                return "" + x.open();
            case "registers":
                return "" + x.registers(Integer.parseInt(argument));
            case "look":
                return "" + x.look(Integer.parseInt(argument));
            case "states":
                return "" + x.states();
            case "found":
                return "" + x.found(Integer.parseInt(argument));
            default:
                return "no such method";
        }
    }

    private static String typeAll(ReactWires x, String text) {
        boolean all = !text.isEmpty();
        for (char c : text.toCharArray()) {
            all &= x.type(c);
        }
        return "" + all;
    }
}
