import java.io.IOException;
import java.nio.charset.StandardCharsets;
import java.nio.file.Files;
import java.nio.file.Path;
import java.util.Arrays;
import java.util.LinkedHashSet;
import java.util.Set;

/** What the tests share: feeding a text, comparing answers, ending with the right exit code. */
final class Due {
    private final Set<String> sentences = new LinkedHashSet<>();
    private String sentence = "";
    private int wrong = 0;
    private int asked = 0;

    /** The words of the document that the answers from here on are looked at for. */
    void sentence(String words) {
        sentence = words;
        sentences.add(words);
    }

    void is(String what, long got, long want) {
        asked++;
        if (got != want) {
            tellWrong(what + " answered " + got + ", due is " + want);
        }
    }

    void is(String what, boolean got, boolean want) {
        is(what, got ? 1 : 0, want ? 1 : 0);
    }

    void is(String what, String got, String want) {
        asked++;
        if (!got.equals(want)) {
            tellWrong(what + " answered\n    " + got + ", due is\n    " + want);
        }
    }

    private void tellWrong(String what) {
        wrong++;
        if (wrong <= 40) {
            System.out.println(sentence.isEmpty() ? what : "\"" + sentence + "\": " + what);
        }
    }

    void end() {
        tellStrangeSentences();
        System.out.println(asked + " answers looked at, " + wrong + " not as due");
        if (wrong != 0) {
            System.exit(1);
        }
    }

    int wrong() {
        return wrong;
    }

    /** A sentence that the document has no more is no failure, but whoever changes the tests should know of it. */
    private void tellStrangeSentences() {
        if (sentences.isEmpty()) {
            return;
        }
        try {
            String document = Files.readString(Path.of("../shared/DOC.md")).replaceAll("\\s+", " ");
            for (String words : sentences) {
                if (!document.contains(words)) {
                    System.out.println("the document does not say: " + words);
                }
            }
        } catch (IOException away) {
            System.out.println("the document is not there: sentences are not looked for");
        }
        System.out.println(sentences.size() + " sentences of the document");
    }

    /** Puts a text on an empty tape, byte by byte as it is. */
    static void feed(TurfGiving x, byte[] text) {
        byte[] whole = Arrays.copyOf(text, (text.length + 19) / 20 * 20);
        for (int at = 0; at < whole.length; at += 20) {
            x.feed(four(whole, at), four(whole, at + 4), four(whole, at + 8), four(whole, at + 12), four(whole, at + 16));
        }
        x.back(whole.length - text.length);
    }

    static byte[] bytes(String text) {
        return text.getBytes(StandardCharsets.ISO_8859_1);
    }

    static int read(TurfGiving x, String text) {
        feed(x, bytes(text));
        return x.read();
    }

    static TurfGiving of(String text) {
        TurfGiving x = new TurfGiving();
        int fault = read(x, text);
        if (fault != 0) {
            throw new IllegalStateException("fault " + fault + " at " + x.place() + " of " + text);
        }
        return x;
    }

    private static int four(byte[] bytes, int at) {
        return (bytes[at] & 255) << 24 | (bytes[at + 1] & 255) << 16 | (bytes[at + 2] & 255) << 8 | bytes[at + 3] & 255;
    }
}
