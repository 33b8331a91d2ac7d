import java.io.IOException;
import java.nio.file.Files;
import java.nio.file.Path;

/** What the boundary tests share: whatever they ask, they ask in the name of a sentence of the document. */
final class Bounds extends Check {
    static final String NINES = "9".repeat(1000);
    static final String TEN_TO_999 = "1" + "0".repeat(999);
    static final int LEAST = Integer.MIN_VALUE;
    static final int MOST = Integer.MAX_VALUE;

    /** The registers of what a call works on; its result comes into TO. */
    static final int A = 0;
    static final int B = 1;

    private static final Path DOCUMENT = Path.of("..", "shared", "DOC.md");

    private final String document = document();
    private String sentence = "";

    private static String document() {
        try {
            return Files.exists(DOCUMENT) ? Files.readString(DOCUMENT) : "";
        } catch (IOException e) {
            throw new IllegalStateException(e);
        }
    }

    /** What follows is asked for the sake of this sentence, which stands under that heading. */
    void sentence(String heading, String words) {
        sentence = heading + ", \"" + words + "\": ";
        if (!document.isEmpty()) {
            due("it stands in the document", section(heading).contains(words), true);
        }
    }

    private String section(String heading) {
        int start = document.indexOf("## " + heading);
        int end = document.indexOf("\n## ", start + 1);
        return start < 0 ? "" : document.substring(start, end < 0 ? document.length() : end);
    }

    @Override
    void due(String what, Object got, Object want) {
        super.due(sentence + what, got, want);
    }

    /** The call is answered, and its result is the one that is due, written as 12s3. */
    void gives(String what, Call call, String due, String... numbers) {
        DecimalDesk desk = desk(numbers);
        String named = what + of(numbers);
        due(named + " throws", thrown(() -> call.on(desk)), "");
        holds(named, desk, TO, due);
    }
}
