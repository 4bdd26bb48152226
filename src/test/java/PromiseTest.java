import java.io.IOException;
import java.lang.reflect.InvocationTargetException;
import java.lang.reflect.Method;
import java.nio.file.Files;
import java.nio.file.Path;
import java.util.ArrayList;
import java.util.Comparator;
import java.util.List;
import java.util.Map;
import java.util.TreeMap;

/**
 * Runs every test of the promises: methods named after their promise (promise16Why ..), each with the sentences of
 * the document that it is of. No sentence of the document may be without a test.
 */
public final class PromiseTest {
    private static final Path DOCUMENT = Path.of("../shared/DOC.md");
    private static final int PROMISES = 46;

    private static int wrong = 0;
    private static int tests = 0;
    /** Sentences by the number of the promise whose tests say them. */
    private static final Map<Integer, List<String>> SAID = new TreeMap<>();

    public static void main(String[] args) throws IOException, ReflectiveOperationException {
        runAll(PostPromises.class);
        runAll(TextPromises.class);
        runAll(DeedPromises.class);
        runAll(WayPromises.class);
        runAll(RemedyPromises.class);
        runAll(SightPromises.class);
        runAll(ChancePromises.class);
        runAll(TrayPromises.class);
        lookInDocument();
        System.out.println(wrong == 0 ? tests + " tests: all promises hold" : wrong + " tests are not as due");
        if (wrong != 0) {
            System.exit(1);
        }
    }

    private static void bad(String what) {
        wrong++;
        System.out.println(what);
    }

    private static void runAll(Class<? extends Promises> promises) throws ReflectiveOperationException {
        List<Method> methods = new ArrayList<>();
        for (Method m : promises.getDeclaredMethods()) {
            if (m.getName().startsWith("promise")) {
                methods.add(m);
            }
        }
        methods.sort(Comparator.comparing(Method::getName));
        for (Method m : methods) {
            run(promises.getDeclaredConstructor().newInstance(), m);
        }
    }

    private static void run(Promises promises, Method m) throws IllegalAccessException {
        tests++;
        try {
            m.invoke(promises);
        } catch (InvocationTargetException e) {
            promises.wrong.add("threw " + e.getCause());
        }
        if (promises.sentences.isEmpty()) {
            promises.wrong.add("is of no sentence");
        }
        int number = Integer.parseInt(m.getName().substring(7, 9));
        SAID.computeIfAbsent(number, k -> new ArrayList<>()).addAll(promises.sentences);
        if (!promises.wrong.isEmpty()) {
            bad(m.getName() + " (" + String.join(" ", promises.sentences) + ")");
            promises.wrong.stream().limit(10).forEach(w -> System.out.println("    " + w));
        }
    }

    private static void lookInDocument() throws IOException {
        if (!Files.exists(DOCUMENT)) {
            System.out.println("no document at " + DOCUMENT + ": the sentences were not looked up");
            return;
        }
        String document = Files.readString(DOCUMENT).replace("```text", "").replace("```", "")
            .replaceAll("\\s+", " ");
        String terms = between(document, "## Terms", "The constants:").replaceAll("==== \\d\\.", "#");
        List<String> ofTerms = new ArrayList<>();
        for (int number = 1; number <= PROMISES; number++) {
            String promise = between(document, "## Promise " + number + ":", "## ");
            promise = promise.substring(promise.indexOf("`:") + 2);
            List<String> ofPromise = new ArrayList<>();
            for (String sentence : SAID.getOrDefault(number, List.of())) {
                if (promise.contains(sentence)) {
                    ofPromise.add(sentence);
                } else if (terms.contains(sentence)) {
                    ofTerms.add(sentence);
                } else {
                    bad("promise " + number + ": the document doesn't say '" + sentence + "'");
                }
            }
            nothingLeft("promise " + number, promise, ofPromise);
        }
        nothingLeft("the terms", terms, ofTerms);
    }

    private static String between(String text, String from, String till) {
        int start = text.indexOf(from) + from.length();
        int end = text.indexOf(till, start);
        return text.substring(start, end);
    }

    private static void nothingLeft(String of, String text, List<String> said) {
        String left = text;
        // Longer ones first, as a shorter one may be a part of a longer one.
        said.sort(Comparator.comparing(String::length).reversed());
        for (String sentence : said) {
            left = left.replace(sentence, "#");
        }
        for (String part : left.split("#")) {
            if (part.matches(".*[A-Za-z0-9].*")) {
                bad(of + ": no test is of '" + part.strip() + "'");
            }
        }
    }
}
