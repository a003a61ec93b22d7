import java.io.IOException;
import java.lang.reflect.Field;
import java.lang.reflect.Method;
import java.lang.reflect.Modifier;
import java.nio.file.Files;
import java.nio.file.Path;

/** README.md: its example stands in this file line for line and answers as it says, and every call is named. */
public final class ReadmeTest {
    private static final String FENCE = "```";

    public static void main(String[] args) throws IOException {
        String readme = Files.readString(Path.of("README.md"));
        example();
        exampleIsTheOneOfTheReadme(readme);
        everythingIsNamed(readme);
        Tools.end();
    }

    private static void example() {
        WuProver prover = new WuProver(7, 5);   // modulo 32749, in x_0 .. x_4
        // Hypothesis 0, the point is on the first diagonal: x_2*x_3 - x_0*x_4 - x_1*x_4
        prover.addTerm(0, 1, 256 + 4096);
        prover.addTerm(0, -1, 1 + 65536);
        prover.addTerm(0, -1, 16 + 65536);
        // Hypothesis 1, it is on the second one: x_2*x_3 - x_0*x_2 + x_0*x_4 - x_1*x_4
        prover.addTerm(1, 1, 256 + 4096);
        prover.addTerm(1, -1, 1 + 256);
        prover.addTerm(1, 1, 1 + 65536);
        prover.addTerm(1, -1, 16 + 65536);
        // Conclusion, it is in the middle of the first one: 2*x_3 - x_0 - x_1
        prover.addTerm(WuProver.TARGET_CONCLUSION, 2, 4096);
        prover.addTerm(WuProver.TARGET_CONCLUSION, -1, 1);
        prover.addTerm(WuProver.TARGET_CONCLUSION, -1, 16);

        int status = prover.prove();            // STATUS_PROVED
        int check = prover.check();             // CHECK_OK: the certificate holds
        int size = prover.chainSize();          // 2: the chain has T_3 and T_4
        int used = prover.multiplier(3);        // 1: the initial of T_3 was used once

        Tools.due("prove()", status, WuProver.STATUS_PROVED);
        Tools.due("check()", check, WuProver.CHECK_OK);
        Tools.due("chainSize()", size, 2);
        Tools.due("multiplier(3)", used, 1);
        // What the text after the example says: T_4's initial is not used, and T_3's is x_0 * x_2 times a number.
        Tools.due("multiplier(4)", prover.multiplier(4), 0);
        Tools.due("T_3", Tools.chain(prover, 3), "1*x0^2*x2 + 1*x0*x1*x2 + 32747*x0*x2*x3");
    }

    private static void exampleIsTheOneOfTheReadme(String readme) throws IOException {
        String fenced = readme.substring(readme.indexOf(FENCE + "java\n") + FENCE.length() + 5);
        String example = fenced.substring(0, fenced.indexOf(FENCE)).stripTrailing();
        String here = Files.readString(Path.of("src/test/java/ReadmeTest.java"));
        holds("the example", example, "prove()");
        // Its lines stand eight places further in here, but for the empty ones.
        holds("ReadmeTest.java", here, example.indent(8).replace("        \n", "\n"));
    }

    private static void everythingIsNamed(String readme) {
        for (Method method : WuProver.class.getDeclaredMethods()) {
            if (Modifier.isPublic(method.getModifiers())) {
                holds("README.md", readme, "`" + method.getName() + "(");
            }
        }
        for (Field field : WuProver.class.getFields()) {
            holds("README.md", readme, "`" + field.getName() + "`");
        }
    }

    private static void holds(String name, String text, String words) {
        Tools.due(name + " holds " + words, text.contains(words) ? 1 : 0, 1);
    }
}
