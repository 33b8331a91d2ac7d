import java.io.IOException;
import java.nio.file.Files;
import java.nio.file.Path;

/**
 * What the boundary tests share. Whatever they ask, they ask in the name of a sentence of the
 * document, and of no object more than the 512 calls that it promises.
 */
final class Bounds {
    static final String NINES = "9".repeat(1000);
    static final String TEN_TO_999 = "1" + "0".repeat(999);
    static final int LEAST = Integer.MIN_VALUE;
    static final int MOST = Integer.MAX_VALUE;

    /** The registers of a and b, of the result, of what was written last, and of what is due. */
    static final int A = 0;
    static final int B = 1;
    static final int TO = 7;
    private static final int WRITTEN = 8;
    private static final int DUE = 9;

    private static final String DRAFT = "-12.5e3";
    private static final int DIGITS_SEEN = 20;
    private static final Path DOCUMENT = Path.of("..", "shared", "DOC.md");

    /** A call on an object whose registers A and B have what it needs, with its result in TO. */
    interface Call {
        void on(DecimalDesk desk);
    }

    private final Check check = new Check();
    private final String document = document();
    private String sentence = "";

    private static String document() {
        try {
            return Files.exists(DOCUMENT) ? Files.readString(DOCUMENT) : "";
        } catch (IOException e) {
            throw new IllegalStateException(e);
        }
    }

    /** What follows is asked for the sake of this sentence, which stands under that heading. */
    void sentence(String heading, String words) {
        sentence = heading + ", \"" + words + "\": ";
        if (!document.isEmpty()) {
            due("it stands in the document", section(heading).contains(words), true);
        }
    }

    private String section(String heading) {
        int start = document.indexOf("## " + heading);
        int end = document.indexOf("\n## ", start + 1);
        return start < 0 ? "" : document.substring(start, end < 0 ? document.length() : end);
    }

    void finish() {
        check.finish();
    }

    void due(String what, Object got, Object want) {
        check.due(sentence + what, got, want);
    }

    /** The call is answered, and its result is the one that is due, written as 12s3. */
    void gives(String what, Call call, String due, String... numbers) {
        DecimalDesk desk = Check.desk(numbers);
        String named = what + of(numbers);
        due(named + " throws", Check.thrown(() -> call.on(desk)), "");
        holds(named, desk, TO, due);
    }

    /** A long number has more digits than an object has calls, so it is compared with the due one. */
    void holds(String what, DecimalDesk desk, int register, String due) {
        int s = due.indexOf('s');
        if (s <= 3 * DIGITS_SEEN) {
            due(what, Check.told(desk, register), due);
            return;
        }
        int scale = Integer.parseInt(due.substring(s + 1));
        Check.set(desk, DUE, due.substring(0, s) + "e" + -scale);
        due(what + ", its value", desk.compare(register, DUE), 0);
        due(what + ", its scale", desk.told(register, 1), scale);
    }

    void illegal(String what, Call call, String... numbers) {
        refused(what, IllegalArgumentException.class, call, numbers);
    }

    void arithmetic(String what, Call call, String... numbers) {
        refused(what, ArithmeticException.class, call, numbers);
    }

    void refused(String what, Class<?> exception, Call call, String... numbers) {
        refusedWithDraft(DRAFT, what, exception, call, numbers);
    }

    /** Of two objects that are made alike one has the call refused: nothing tells them apart then. */
    void refusedWithDraft(String draft, String what, Class<?> exception, Call call, String... numbers) {
        DecimalDesk tried = laden(draft, numbers);
        String named = what + of(numbers);
        due(named + " throws", Check.thrown(() -> call.on(tried)), exception.getSimpleName());
        due(named + " leaves", seen(tried), seen(laden(draft, numbers)));
    }

    private static DecimalDesk laden(String draft, String... numbers) {
        DecimalDesk desk = Check.desk(numbers);
        desk.put(TO, 725, 2);
        desk.put(WRITTEN, -825, 2);
        desk.put(DUE, 31, -4);
        desk.written(WRITTEN, 0);
        Check.draft(desk, draft);
        return desk;
    }

    /** All that calls can tell of an object; its draft is read last, for the characters in it. */
    private static String seen(DecimalDesk desk) {
        StringBuilder text = new StringBuilder();
        for (int i = 0; i < 10; i++) {
            text.append(outline(desk, i)).append(' ');
        }
        text.append(Check.lastWritten(desk)).append(' ').append(desk.write(0L)).append(' ');
        text.append(Check.thrown(() -> desk.read(DUE))).append(' ').append(outline(desk, DUE));
        return text.append(' ').append(desk.wipe()).toString();
    }

    private static String outline(DecimalDesk desk, int register) {
        int precision = desk.told(register, 2);
        StringBuilder text = new StringBuilder();
        text.append(desk.told(register, 0)).append('p').append(precision).append('s').append(desk.told(register, 1));
        text.append(':');
        for (int i = 0; i < precision; i++) {
            if (i < DIGITS_SEEN || i >= precision - DIGITS_SEEN) {
                text.append(desk.told(register, 3 + i));
            }
        }
        return text.toString();
    }

    private static String of(String... numbers) {
        StringBuilder text = new StringBuilder();
        for (String number : numbers) {
            boolean isLong = number.length() > 3 * DIGITS_SEEN;
            text.append(text.length() == 0 ? " of " : ", ");
            text.append(isLong ? number.substring(0, DIGITS_SEEN) + ".." + number.length() + ".." : number);
        }
        return text.toString();
    }
}
