import java.io.IOException;
import java.lang.reflect.Method;
import java.lang.reflect.Modifier;
import java.nio.file.Files;
import java.nio.file.Path;
import java.util.List;
import java.util.TreeSet;
import java.util.stream.Collectors;

/** What README.md says about the use of the class; to be run from the project's folder. */
public final class ReadmeTest {
    private static final String FENCE = "```";

    private final List<String> page;
    private int answered;

    private ReadmeTest(List<String> itsPage) {
        page = itsPage;
    }

    public static void main(String[] args) throws IOException {
        ReadmeTest test = new ReadmeTest(Files.readAllLines(Path.of("README.md")));
        test.checkExample();
        test.checkTableOfCalls();
        test.checkTests();
        Check.end("ReadmeTest");
    }

    private void checkExample() {
        PolicyGate gate = new PolicyGate();
        int ann = gate.addUser(1, 0);
        int bob = gate.addUser(0, 0);
        int editor = gate.addRole();
        says("gate.setRole(ann, editor, true);", gate.setRole(ann, editor, true));
        int folder = gate.addResource(0);
        int page = gate.addResource(folder);
        int rule = gate.addRule(true, 12 + editor, 1 + 2 + 16, folder);
        gate.setRule(rule, true, 0);
        says("gate.decide(ann, 0, page);", gate.decide(ann, 0, page));
        says("gate.why(ann, 0, page);", gate.why(ann, 0, page));
        says("gate.decide(ann, 1, page);", gate.decide(ann, 1, page));
        says("gate.grant(ann, bob, 0, folder, 0, 60);", gate.grant(ann, bob, 0, folder, 0, 60));
        says("gate.access(bob, 0, page);", gate.access(bob, 0, page));
        says("gate.done(bob, page);", gate.done(bob, page));
        says("gate.rolesNeeded(bob, 1, page);", gate.rolesNeeded(bob, 1, page));
        says("gate.who(0, page);", gate.who(0, page));
        says("gate.goOn(60);", gate.goOn(60));
        says("gate.decide(bob, 0, page);", gate.decide(bob, 0, page));
        isThere("PolicyGate gate = new PolicyGate();");
        isThere("int ann = gate.addUser(1, 0);");
        isThere("int bob = gate.addUser(0, 0);");
        isThere("int editor = gate.addRole();");
        isThere("int folder = gate.addResource(0);");
        isThere("int page = gate.addResource(folder);");
        isThere("int rule = gate.addRule(true, 12 + editor, 1 + 2 + 16, folder);");
        isThere("gate.setRule(rule, true, 0);");
        Check.same("lines of the example looked at", answered, example().size());
    }

    private List<String> example() {
        int from = page.indexOf(FENCE + "java") + 1;
        return page.subList(from, from + page.subList(from, page.size()).indexOf(FENCE));
    }

    /** The example has the call, and behind it the answer, up to a colon. */
    private void says(String call, Object got) {
        Check.same(call, String.valueOf(got), isThere(call).replaceFirst("^ *// ", "").replaceFirst(":.*", ""));
    }

    private String isThere(String call) {
        answered++;
        for (String line : example()) {
            if (line.startsWith(call)) {
                return line.substring(call.length());
            }
        }
        Check.same("the example has " + call, false, true);
        return "";
    }

    private void checkTableOfCalls() {
        TreeSet<String> told = new TreeSet<>();
        for (String row : page.subList(page.indexOf("| To | call |") + 2, page.size())) {
            if (!row.startsWith("|")) {
                break;
            }
            told.addAll(List.of(row.split("\\|")[2].replace("`", "").trim().split(" ")));
        }
        TreeSet<String> face = new TreeSet<>();
        for (Method m : PolicyGate.class.getDeclaredMethods()) {
            if (Modifier.isPublic(m.getModifiers())) {
                face.add(m.getName());
            }
        }
        Check.same("calls in the table", String.join(" ", told), String.join(" ", face));
    }

    private void checkTests() throws IOException {
        String text = String.join("\n", page);
        try (var files = Files.list(Path.of("src/test/java"))) {
            List<String> names = files.map(f -> f.getFileName().toString()).filter(f -> f.endsWith("Test.java"))
                    .collect(Collectors.toList());
            for (String name : names) {
                Check.same(name + " is told", text.contains(name), true);
            }
        }
    }
}
