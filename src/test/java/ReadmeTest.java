import java.io.IOException;
import java.nio.file.Files;
import java.nio.file.Path;

/** The example of README.md: each of its lines must stand there and answer what is said behind it. */
public final class ReadmeTest {
    private static String example = "";
    private static int lines = 0;

    private ReadmeTest() {
    }

    /** The code block under the heading, its runs of blanks as one. */
    private static String read() throws IOException {
        String whole = Files.readString(Path.of("README.md"));
        int from = whole.indexOf("```java\n", whole.indexOf("## How to use it"));
        return whole.substring(from, whole.indexOf("\n```\n", from) + 1).replaceAll(" +", " ");
    }

    /** A line of the example, whose comment begins with its answer. */
    private static void line(String call, int got) {
        stands(call, "rules." + call + "; // " + got);
        lines++;
    }

    private static void stands(String what, String text) {
        int at = example.indexOf("\n" + text);
        int behind = at + 1 + text.length();
        boolean stands = at >= 0 && !Character.isDigit(example.charAt(behind));
        Checks.due(what + " stands in README.md as: " + text, stands ? 1 : 0, 1);
    }

    private static void setupAndStep(PairRules rules) {
        line("feed(0x73746172, 0x74206162, 0x6361623b, 0x74696520, 0x31000000)",
            rules.feed(0x73746172, 0x74206162, 0x6361623b, 0x74696520, 0x31000000));
        line("load()", rules.load());
        Checks.due("the setup's TIE", rules.size(5), 1);
        line("best(0)", rules.best(0));
        line("stepsLeft()", rules.stepsLeft());
        line("step(1)", rules.step(1));
        line("startAt(0)", rules.startAt(0));
        line("report()", rules.report());
        line("reportByte(1)", rules.reportByte(1));
        Checks.due("rows behind the step", Checks.rows(rules), "(0)c(0) 0=ab");
        line("undo()", rules.undo());
        Checks.due("rows behind undo", Checks.rows(rules), "abcab");
    }

    private static void scriptAndErrors(PairRules rules) {
        line("feed(0x6d616b65, 0x2061623b, 0x61707065, 0x6e642063, 0x3b000000)",
            rules.feed(0x6d616b65, 0x2061623b, 0x61707065, 0x6e642063, 0x3b000000));
        line("play()", rules.play());
        Checks.due("rows behind the script", Checks.rows(rules), "(0)c(0)c 0=ab");
        line("feed(0x73746172, 0x7420613b, 0x74696520, 0x37000000, 0)",
            rules.feed(0x73746172, 0x7420613b, 0x74696520, 0x37000000, 0));
        line("load()", rules.load());
        line("errorPosition()", rules.errorPosition());
        line("expand(5)", rules.expand(5));
        Checks.badIndex("expand(40)", () -> rules.expand(40));
        stands("expand(40)", "rules.expand(40); // throws IndexOutOfBoundsException");
        lines++;
        Checks.due("rows behind the errors", Checks.rows(rules), "(0)c(0)c 0=ab");
    }

    public static void main(String[] args) throws IOException {
        example = read();
        PairRules rules = new PairRules();
        stands("the new object", "PairRules rules = new PairRules(); // START is \"a\"");
        Checks.due("rows of the new object", Checks.rows(rules), "a");
        setupAndStep(rules);
        scriptAndErrors(rules);
        Checks.due("lines of the example that call", lines, example.split("\nrules\\.", -1).length - 1);
        Checks.end();
    }
}
