import java.io.IOException;
import java.lang.reflect.Field;
import java.lang.reflect.Method;
import java.lang.reflect.Modifier;
import java.nio.file.Files;
import java.nio.file.Path;

/**
 * The example of README.md answers what README.md says, and the page names the whole class.
 * It reads the page from the folder it is started in, which .ci/run makes the project's own.
 */
public final class ReadmeTest {
    public static void main(String[] args) throws IOException, IllegalAccessException {
        Check check = new Check();
        String page = Files.readString(Path.of("README.md"));
        exampleAnswersWhatItSays(check);
        exampleIsTheOneRunHere(check, page);
        everyMemberIsNamed(check, page);
        declaredRanksAreTheOnesShown(check, page);
        check.due("the page says how to run the tests", page.contains("\n    .ci/run\n"), true);
        check.finish();
    }

    private static void exampleAnswersWhatItSays(Check check) {
        RankAgreement engine = new RankAgreement(16);
        check.due("make", engine.make(0, 2, 3, -1), 6);
        check.array("make", engine, 0, Check.shape(2, 3), 0, 1, 2, 3, 4, 5);
        check.due("sum", engine.monad(RankAgreement.SUM, 0, 1), 3);
        check.array("sum", engine, 1, Check.shape(3), 3, 5, 7);
        engine.setRank(0, 1);
        check.due("sum of rows", engine.monad(RankAgreement.SUM, 0, 1), 2);
        check.array("sum of rows", engine, 1, Check.shape(2), 3, 12);
        engine.clearRank();
        check.due("iota", engine.monad(RankAgreement.IOTA, 1, 2), RankAgreement.ERR_LIMIT);
        check.due("plus", engine.dyad(RankAgreement.PLUS, 1, 0, 2), 6);
        check.array("plus", engine, 2, Check.shape(2, 3), 3, 4, 5, 15, 16, 17);
        check.due("last", engine.atom(2, 5), 17);
        engine.setFill(9);
        check.due("make list", engine.make(3, 2, -1, -1), 2);
        check.array("make list", engine, 3, Check.shape(2), 0, 1);
        check.due("set", engine.set(3, 0, 3), true);
        check.array("set", engine, 3, Check.shape(2), 3, 1);
        check.due("padded iota", engine.monad(RankAgreement.IOTA, 3, 3), 6);
        check.array("padded iota", engine, 3, Check.shape(2, 3), 0, 1, 2, 0, 9, 9);
    }

    /** Without this the page could be changed and the calls above stay as they were. */
    private static void exampleIsTheOneRunHere(Check check, String page) throws IOException {
        String here = Files.readString(Path.of("src/test/java/ReadmeTest.java"));
        String open = "```java\n";
        int start = page.indexOf(open) + open.length();
        String example = page.substring(start, page.indexOf("```", start));
        int from = 0;
        int statements = 0;
        for (String line : example.split("\n")) {
            String statement = line.substring(0, line.indexOf(';'));
            int found = here.indexOf(statement, from);
            check.due("the test runs, in its turn: " + statement, found >= 0, true);
            from = found < 0 ? from : found + statement.length();
            statements++;
        }
        check.due("statements of the example", statements, 13);
    }

    private static void everyMemberIsNamed(Check check, String page) throws IllegalAccessException {
        for (Field field : RankAgreement.class.getDeclaredFields()) {
            if (Modifier.isPublic(field.getModifiers())) {
                String name = field.getName();
                check.due("the page names " + name, page.contains("`" + name + "`"), true);
                String row = "| `" + name + "` | " + field.getInt(null) + " |";
                boolean shown = !name.startsWith("ERR_") || page.contains(row);
                check.due("the page shows the code of " + name, shown, true);
            }
        }
        for (Method method : RankAgreement.class.getDeclaredMethods()) {
            if (Modifier.isPublic(method.getModifiers())) {
                String name = method.getName();
                check.due("the page names " + name, page.contains("`" + name + "("), true);
            }
        }
    }

    private static void declaredRanksAreTheOnesShown(Check check, String page) {
        RankAgreement engine = new RankAgreement(16);
        String[] monads = {"NEG", "IOTA", "SHAPE", "REVERSE", "SUM", "RAVEL"};
        for (int verb = RankAgreement.NEG; verb <= RankAgreement.RAVEL; verb++) {
            String row = "| `" + monads[verb] + "` | " + engine.declaredRank(verb, 0) + " |";
            check.due("the page has " + row, page.contains(row), true);
        }
        String[] dyads = {"PLUS", "MINUS", "TIMES", "MAX", "RESHAPE", "TAKE", "FROM"};
        for (int verb = RankAgreement.PLUS; verb <= RankAgreement.FROM; verb++) {
            String ranks = engine.declaredRank(verb, 1) + " | " + engine.declaredRank(verb, 2);
            String row = "| `" + dyads[verb - RankAgreement.PLUS] + "` | " + ranks + " |";
            check.due("the page has " + row, page.contains(row), true);
        }
    }
}
