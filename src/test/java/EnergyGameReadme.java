import java.io.IOException;
import java.lang.reflect.Method;
import java.lang.reflect.Modifier;
import java.nio.file.Files;
import java.nio.file.Path;
import java.util.Arrays;
import java.util.List;
import java.util.regex.Matcher;
import java.util.regex.Pattern;

// What README.md shows is what the class does. Reads README.md in the directory it is run from,
// which .ci/run makes the project's.
public final class EnergyGameReadme {
    private static final Pattern MADE = Pattern.compile("EnergyGame game = new EnergyGame\\((-?\\d+)\\);.*");
    private static final Pattern CALLED = Pattern.compile("game\\.(\\w+)\\(([^)]*)\\); *// (-?\\d+): .*");

    private static int wrong = 0;

    public static void main(String[] args) throws IOException, ReflectiveOperationException {
        List<String> lines = Files.readAllLines(Path.of("README.md"));
        example(lines);
        table(lines);
        System.out.println(wrong == 0 ? "README.md is as due" : wrong + " things are not as due");
        if (wrong != 0) {
            System.exit(1);
        }
    }

    private static void tell(String what) {
        wrong++;
        System.out.println(what);
    }

    private static void example(List<String> lines) throws ReflectiveOperationException {
        int first = lines.indexOf("```java") + 1;
        Matcher made = MADE.matcher(lines.get(first));
        if (first == 0 || !made.matches()) {
            tell("the example does not begin with a new object");
            return;
        }
        EnergyGame game = new EnergyGame(Integer.parseInt(made.group(1)));
        int line = first + 1;
        for (; !lines.get(line).equals("```"); line++) {
            exampleLine(game, lines.get(line));
        }
        if (line == first + 1) {
            tell("the example has no calls");
        }
    }

    private static void exampleLine(EnergyGame game, String line) throws ReflectiveOperationException {
        Matcher called = CALLED.matcher(line);
        if (!called.matches()) {
            tell("not a call with its answer: " + line);
            return;
        }
        Object[] values = values(called.group(2));
        Class<?>[] types = new Class<?>[values.length];
        Arrays.fill(types, int.class);
        Object got = EnergyGame.class.getMethod(called.group(1), types).invoke(game, values);
        if (!got.equals(Integer.valueOf(called.group(3)))) {
            tell("the class answers " + got + ": " + line);
        }
    }

    private static Object[] values(String text) {
        if (text.isBlank()) {
            return new Object[0];
        }
        String[] parts = text.split(",");
        Object[] values = new Object[parts.length];
        for (int i = 0; i < parts.length; i++) {
            values[i] = sumOfProducts(parts[i]);
        }
        return values;
    }

    // A play is written as 128 * steps + credit, as in the document.
    private static int sumOfProducts(String text) {
        int sum = 0;
        for (String term : text.split("\\+")) {
            int product = 1;
            for (String factor : term.split("\\*")) {
                product *= Integer.parseInt(factor.trim());
            }
            sum += product;
        }
        return sum;
    }

    private static void table(List<String> lines) {
        for (Method method : EnergyGame.class.getDeclaredMethods()) {
            String row = "| `" + method.getName() + "(";
            if (Modifier.isPublic(method.getModifiers()) && lines.stream().noneMatch(l -> l.startsWith(row))) {
                tell("the table has no row for " + method.getName());
            }
        }
    }
}
