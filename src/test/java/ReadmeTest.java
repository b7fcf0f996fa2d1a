import java.io.IOException;
import java.nio.file.Files;
import java.nio.file.Path;

/** README.md's examples, call by call: each line stands there, and answers what it says. */
public final class ReadmeTest {
    private static final Checks CHECKS = new Checks("ReadmeTest");

    private final String readme;

    private ReadmeTest(String readme) {
        this.readme = readme;
    }

    public static void main(String[] args) throws IOException {
        ReadmeTest test = new ReadmeTest(Files.readString(Path.of("README.md")));
        RunOrder x = new RunOrder(2, 10);
        test.firstExample(x);
        test.secondExample(x);
        CHECKS.end();
    }

    /** An example line without a written answer is held by the answers that follow it. */
    private void line(String call, int got, int want) {
        CHECKS.due(call, got, want);
        CHECKS.due("README.md has " + call, readme.contains(call + ";"), true);
    }

    private void answer(String call, int got, int want) {
        line(call, got, want);
        int at = Math.max(0, readme.indexOf(call + ";"));
        String rest = readme.substring(at).split("\n", 2)[0];
        CHECKS.due("README.md tells of " + call + " the answer " + want,
                rest.matches(".*// (number )?" + want + "\\b.*")
                        || rest.matches(".*: number " + want), true);
    }

    private static int flag(boolean b) {
        return b ? 1 : 0;
    }

    private void firstExample(RunOrder x) {
        int a = x.action(3, 1, 4);
        int b = x.action(5, 2, 4);
        answer("x.action(3, 1, 4)", a, 0);
        answer("x.action(5, 2, 4)", b, 1);
        line("x.needs(b, a)", x.needs(b, a), 1);
        line("x.wish(b, true)", flag(x.wish(b, true)), 1);
        answer("x.rest(a)", x.rest(a), 8);
        answer("int end = x.run()", x.run(), 8);
        answer("x.outcome(b, 0)", x.outcome(b, 0), 1);
        answer("x.outcome(b, 1)", x.outcome(b, 1), 3);
    }

    private void secondExample(RunOrder x) {
        int a = 0;
        int b = 1;
        line("x.fails(a, 1, 2)", flag(x.fails(a, 1, 2)), 1);
        answer("int end2 = x.run()", x.run(), 3);
        CHECKS.due("a failed", x.outcome(a, 0), 2);
        CHECKS.due("b is skipped", x.outcome(b, 0), 3);
        answer("x.first()", x.first(), 0);
        line("x.retries(2, 1)", flag(x.retries(2, 1)), 1);
        line("x.slots(1)", flag(x.slots(1)), 1);
        line("x.about(b, false, 0, 2)", flag(x.about(b, false, 0, 2)), 1);
        line("x.mode(3, true)", flag(x.mode(3, true)), 1);
        answer("int end3 = x.run()", x.run(), 8);
        CHECKS.dueOutcome("a from 0 to 6", x, a, 1, 0, 6, 2, 0);
        answer("x.outcome(a, 3)", x.outcome(a, 3), 2);
        answer("x.outcome(b, 4)", x.outcome(b, 4), 1);
        answer("x.order(1)", x.order(1), 0);
        CHECKS.due("b is order(2)", x.order(2), b);
        answer("x.peak(0)", x.peak(0), 2);
    }
}
