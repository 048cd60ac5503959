import java.io.IOException;
import java.io.UncheckedIOException;
import java.nio.file.Files;
import java.nio.file.Path;
import java.util.BitSet;
import java.util.LinkedHashMap;
import java.util.Map;

/** The sentences of the document: a test quotes the one that it holds, and none may be left without a test. */
final class Sentence {
    private static final Path DOC = Path.of("../shared/DOC.md");
    private static final String CAPITALS = "[A-Z]{2,}[A-Z, ]*";

    /** The paragraphs of each section, a line each; its name is "Promise 7" or a title of the terms, as "NOTES". */
    private static final Map<String, String> SECTIONS = new LinkedHashMap<>();
    private static final Map<String, BitSet> QUOTED = new LinkedHashMap<>();
    private static int held = 0;

    private Sentence() {
    }

    static void holds(String section, String words, Runnable test) {
        Check.about(section + ", \"" + words + "\": ");
        quote(section, words);
        int before = Check.done();
        try {
            test.run();
        } catch (RuntimeException e) {
            Check.same("the test throws", "nothing", e);
        }
        Check.same("something is checked", true, Check.done() > before);
        Check.about("");
        held++;
    }

    private static void quote(String section, String words) {
        read();
        int at = SECTIONS.getOrDefault(section, "").indexOf(words);
        Check.same("it stands in the document", true, at >= 0);
        if (at >= 0) {
            QUOTED.get(section).set(at, at + words.length());
        }
    }

    /** Every sentence of the sections must be quoted, or a part of it. */
    static void allAreHeld(String... notPromised) {
        read();
        for (Map.Entry<String, String> section : SECTIONS.entrySet()) {
            int from = 0;
            for (String piece : section.getValue().split("(?<=[.;]) |\n")) {
                int next = QUOTED.get(section.getKey()).nextSetBit(from);
                boolean isQuoted = next >= 0 && next < from + piece.length();
                boolean isFree = startsWithOne(piece, notPromised);
                Check.same(section.getKey() + ": a test holds: " + piece, true, isQuoted || isFree);
                from += piece.length() + 1;
            }
        }
        System.out.println(held + " sentences are held");
    }

    private static boolean startsWithOne(String piece, String... beginnings) {
        for (String beginning : beginnings) {
            if (piece.startsWith(beginning)) {
                return true;
            }
        }
        return false;
    }

    private static void read() {
        if (!SECTIONS.isEmpty()) {
            return;
        }
        String name = "";
        boolean goesOn = false;
        for (String line : lines()) {
            boolean isTitle = line.startsWith("## ") || line.matches(CAPITALS);
            if (isTitle) {
                name = line.replace("## ", "").replaceFirst("(Promise \\d+).*", "$1");
            } else if (!line.isBlank() && isPromised(name)) {
                add(name, line, goesOn && !line.startsWith("- "));
            }
            goesOn = !isTitle && !line.isBlank();
        }
        SECTIONS.keySet().forEach(n -> QUOTED.put(n, new BitSet()));
    }

    private static Iterable<String> lines() {
        try {
            return Files.readAllLines(DOC);
        } catch (IOException e) {
            throw new UncheckedIOException(e);
        }
    }

    private static boolean isPromised(String name) {
        return name.startsWith("Promise ") || name.matches(CAPITALS) || name.equals("What it is");
    }

    private static void add(String name, String line, boolean goesOn) {
        SECTIONS.merge(name, line, (a, b) -> a + (goesOn ? " " : "\n") + b);
    }
}
