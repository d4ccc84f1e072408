import java.io.IOException;
import java.nio.file.Files;
import java.nio.file.Path;
import java.util.List;

/** The examples of README.md: what it tells of the class is what the class answers. */
public final class ReadmeTest {
    private static final Path README = Path.of("README.md");
    private static final Path SOURCE = Path.of("src", "test", "java", "ReadmeTest.java");
    private static final int FAULTS = 9;

    public static void main(String[] args) throws IOException {
        List<String> lines = Files.readAllLines(README);
        codeIsTheOneTestedHere(lines);
        codeAnswersAsTold();
        everyCallIsTold(lines);
        textsAnswerAsTold(lines);
        Desk.end();
    }

    /** A line of code that the page changes has to be changed here too, where it is run. */
    private static void codeIsTheOneTestedHere(List<String> lines) throws IOException {
        Desk.sentence("README.md: the code");
        List<String> source = Files.readAllLines(SOURCE).stream().map(String::trim).toList();
        boolean inCode = false;
        int found = 0;
        for (String line : lines) {
            if (line.startsWith("```")) {
                inCode = line.equals("```java");
            } else if (inCode) {
                String code = line.replaceAll("//.*", "").trim().replace("static void feedText", "private static void feedText");
                Desk.due("is here: " + code, source.contains(code), true);
                found++;
            }
        }
        Desk.due("there is code", found > 0, true);
    }

    private static void feedText(WordForge forge, String text) {
        for (int p = 0; p < text.length(); p += 4) {
            int w = 0;
            for (int k = 0; k < 4 && p + k < text.length(); k++) {
                w |= text.charAt(p + k) << 8 * k;
            }
            forge.feed(w);
        }
    }

    private static void codeAnswersAsTold() {
        Desk.sentence("README.md: the code");
        WordForge forge = new WordForge();
        feedText(forge, ": sq dup * ; 7 sq dup .");
        int fault = forge.load();
        long top = forge.value(0);
        long latest = forge.output(0);
        int steps = forge.steps();
        forge.clear();
        feedText(forge, "1 + sq 0 /");
        int next = forge.load();
        int place = forge.faultAt();
        int left = forge.depth();
        int known = forge.definitions();
        Desk.due("fault", fault, 0);
        Desk.due("top", top, 49);
        Desk.due("latest", latest, 49);
        Desk.due("steps", steps, 7);
        Desk.due("next", next, 5);
        Desk.due("place", place, 4);
        Desk.due("left", left, 0);
        Desk.due("known", known, 1);
    }

    private static void everyCallIsTold(List<String> lines) {
        Desk.sentence("README.md: the calls");
        String page = String.join("\n", lines);
        for (var method : WordForge.class.getDeclaredMethods()) {
            boolean told = page.contains("`" + method.getName() + "(");
            Desk.due(method.getName() + " is told", told, true);
        }
    }

    private static void textsAnswerAsTold(List<String> lines) {
        Desk.sentence("README.md: the texts");
        boolean[] met = new boolean[FAULTS + 1];
        for (String line : lines) {
            String[] parts = line.split("\\|", -1);
            if (parts.length == 7 && parts[2].trim().matches("[0-9]")) {
                int fault = Integer.parseInt(parts[2].trim());
                met[fault] = true;
                answersAsTold(parts, fault);
            }
        }
        for (int fault = 0; fault <= FAULTS; fault++) {
            Desk.due("fault " + fault + " has a text", met[fault], true);
        }
    }

    private static void answersAsTold(String[] parts, int fault) {
        String text = parts[1].replace("`", "").trim();
        int place = Integer.parseInt(parts[3].trim());
        int steps = Integer.parseInt(parts[4].trim());
        if (fault != 0) {
            new Desk().meets(text, fault, place, steps);
            return;
        }
        Desk desk = new Desk().makes(text, steps);
        Desk.due("faultAt of '" + text + "'", desk.forge.faultAt(), place);
        String[] values = parts[5].trim().split(" ");
        long[] stack = new long[values.length];
        for (int k = 0; k < values.length; k++) {
            stack[k] = Long.parseLong(values[k]);
        }
        desk.holds(text, stack);
    }
}
