import java.io.IOException;
import java.io.UncheckedIOException;
import java.nio.charset.StandardCharsets;
import java.nio.file.Files;
import java.nio.file.Path;
import java.util.ArrayList;
import java.util.List;

/**
 * The document's own words. A test names the words that it is for; those that do not stand in the document are
 * wrong, and at the end so are words of the document for which there was no test.
 */
final class Doc {
    /** Where the "Terms" stand in place of a promise's number. */
    static final int TERMS = 0;
    private static final int PROMISES = 43;
    private static final List<String> BODIES = new ArrayList<>();
    private static final List<boolean[]> TOLD = new ArrayList<>();

    private Doc() {
    }

    /** From here on the checks are for these words of a promise (or of the TERMS). */
    static void says(int promise, String words) {
        read();
        String body = BODIES.get(promise);
        boolean[] told = TOLD.get(promise);
        int place = body.indexOf(words);
        int first = place;
        while (place >= 0 && told[place]) {
            place = body.indexOf(words, place + 1);
        }
        place = place < 0 ? first : place;
        Due.where(name(promise) + " \"" + words + "\": ");
        Due.is("these words stand in the document", place >= 0, true);
        for (int i = 0; place >= 0 && i < words.length(); i++) {
            told[place + i] = true;
        }
    }

    /** The words of the document that no test named are wrong answers. */
    static void close() {
        read();
        for (int promise = 0; promise <= PROMISES; promise++) {
            Due.where(name(promise) + ": ");
            Due.is("words without a test:" + untold(promise), untold(promise).isEmpty(), true);
        }
        Due.where("");
    }

    private static String name(int promise) {
        return promise == TERMS ? "Terms" : "Promise " + promise;
    }

    private static String untold(int promise) {
        String body = BODIES.get(promise);
        boolean[] told = TOLD.get(promise);
        StringBuilder left = new StringBuilder();
        for (int i = 0; i < body.length(); i++) {
            boolean counts = !told[i] && (Character.isLetterOrDigit(body.charAt(i)) || body.charAt(i) == '-');
            boolean within = left.length() > 0 && i > 0 && !told[i] && !told[i - 1];
            if (counts || within) {
                left.append(within ? "" : " .. ").append(body.charAt(i));
            }
        }
        return left.toString();
    }

    private static void read() {
        if (!BODIES.isEmpty()) {
            return;
        }
        String all;
        try {
            all = Files.readString(Path.of("../shared/DOC.md"), StandardCharsets.UTF_8);
        } catch (IOException e) {
            throw new UncheckedIOException(e);
        }
        add(between(all, "\n## Terms\n", "\n## Promise 1:"));
        for (int promise = 1; promise <= PROMISES; promise++) {
            String body = between(all, "\n## Promise " + promise + ":", "\n## ");
            add(body.substring(body.indexOf("`: ") + 3));
        }
    }

    private static String between(String all, String from, String to) {
        int start = all.indexOf(from) + from.length();
        return all.substring(start, all.indexOf(to, start));
    }

    private static void add(String body) {
        String plain = body.replaceAll("```(text)?|==== \\d\\.", " ").replaceAll("\\s+", " ");
        BODIES.add(plain);
        TOLD.add(new boolean[plain.length()]);
    }
}
