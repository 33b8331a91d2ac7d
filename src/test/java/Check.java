/**
 * What the tests share. The document promises the answers to an object's first 512 calls alone, so
 * nothing here asks more of one: a long number is compared with the due one, a long text is read from
 * several objects that are made alike.
 */
class Check {
    private static final int DIGITS_SEEN = 20;
    private static final int CHARACTERS_READ = 300;
    private static final String DRAFT = "-12.5e3";
    private static final String MACHINE_DIVISION = "/ by zero";

    /** The registers that a refused call's object has filled beside those that the call is on. */
    static final int TO = 7;
    private static final int WRITTEN = 8;
    private static final int SPARE = 9;
    private static final int LATER = 6;

    /** A call, or some, on an object that has been made ready for it. */
    interface Call {
        void on(DecimalDesk desk);
    }

    private int wrong;
    private int asked;

    void due(String what, Object got, Object want) {
        asked++;
        if (!want.equals(got)) {
            wrong++;
            System.out.println(what + " answered " + got + ", due is " + want);
        }
    }

    /** A part that breaks off is a wrong answer, and those behind it are asked nevertheless. */
    void run(Runnable... parts) {
        for (Runnable part : parts) {
            due("what comes next breaks off with", thrown(part), "");
        }
        finish();
    }

    void finish() {
        System.out.println(asked + " answers, " + wrong + " wrong");
        if (wrong != 0 || asked == 0) {
            System.exit(1);
        }
    }

    /** The simple name of the exception that a call throws, or "". */
    static String thrown(Runnable call) {
        try {
            call.run();
            return "";
        } catch (RuntimeException e) {
            // The machine's other exceptions have names of their own; this one bears the document's.
            boolean machine = MACHINE_DIVISION.equals(e.getMessage());
            return e.getClass().getSimpleName() + (machine ? " of the machine" : "");
        }
    }

    static int draft(DecimalDesk desk, String characters) {
        int answer = desk.write(0L);
        for (int i = 0; i < characters.length(); i += 8) {
            long bytes = 0;
            for (int j = Math.min(characters.length(), i + 8) - 1; j >= i; j--) {
                bytes = bytes << 8 | characters.charAt(j);
            }
            answer = desk.write(bytes);
        }
        return answer;
    }

    static void set(DecimalDesk desk, int register, String number) {
        desk.wipe();
        draft(desk, number);
        desk.read(register);
    }

    /** How many calls set makes. */
    static int callsToSet(String number) {
        return 3 + (number.length() + 7) / 8;
    }

    /** A new object with these numbers in its registers, from 0 on. */
    static DecimalDesk desk(String... numbers) {
        DecimalDesk desk = new DecimalDesk();
        for (int i = 0; i < numbers.length; i++) {
            set(desk, i, numbers[i]);
        }
        return desk;
    }

    /** What told says of a register: the number and the scale, as 12s3. */
    static String told(DecimalDesk desk, int register) {
        StringBuilder text = new StringBuilder();
        int sign = desk.told(register, 0);
        text.append(sign < 0 ? "-" : "");
        int precision = desk.told(register, 2);
        for (int i = 0; i < precision; i++) {
            text.append(desk.told(register, 3 + i));
        }
        return text.append('s').append(desk.told(register, 1)).toString();
    }

    static boolean isLong(String due) {
        return due.indexOf('s') > 3 * DIGITS_SEEN;
    }

    void holds(String what, DecimalDesk desk, int register, String due) {
        holds(what, desk, register, due, SPARE);
    }

    /** A register has what is due, as told says it; a long number is compared, in a spare register. */
    void holds(String what, DecimalDesk desk, int register, String due, int spare) {
        if (!isLong(due)) {
            due(what, told(desk, register), due);
            return;
        }
        set(desk, spare, numberText(due));
        due(what + ", its value", desk.compare(register, spare), 0);
        due(what + ", its scale", desk.told(register, 1), desk.told(spare, 1));
    }

    /** The number text for what told says. */
    static String numberText(String told) {
        int s = told.indexOf('s');
        return told.substring(0, s) + "e" + -Integer.parseInt(told.substring(s + 1));
    }

    void illegal(String what, Call call, String... numbers) {
        refused(what, IllegalArgumentException.class, call, numbers);
    }

    void arithmetic(String what, Call call, String... numbers) {
        refused(what, ArithmeticException.class, call, numbers);
    }

    void refused(String what, Class<?> exception, Call call, String... numbers) {
        refusedWithDraft(DRAFT, what, exception, call, numbers);
    }

    /** Of two objects that are made alike one has the call refused: nothing tells them apart then. */
    void refusedWithDraft(String draft, String what, Class<?> exception, Call call, String... numbers) {
        DecimalDesk tried = laden(draft, numbers);
        String named = what + of(numbers);
        due(named + " throws", thrown(() -> call.on(tried)), exception.getSimpleName());
        due(named + " leaves", seen(tried), seen(laden(draft, numbers)));
    }

    private static DecimalDesk laden(String draft, String... numbers) {
        DecimalDesk desk = desk(numbers);
        desk.put(TO, 725, 2);
        desk.put(WRITTEN, -825, 2);
        desk.put(SPARE, 31, -4);
        desk.written(WRITTEN, 0);
        draft(desk, draft);
        return desk;
    }

    /** All that calls can tell of an object; its draft is read late, for the characters in it. */
    private static String seen(DecimalDesk desk) {
        StringBuilder text = new StringBuilder();
        for (int i = 0; i < 10; i++) {
            text.append(outline(desk, i)).append(' ');
        }
        text.append(lastWritten(desk)).append(' ').append(desk.write(0L)).append(' ');
        desk.quotient(WRITTEN, SPARE, LATER, 5, 4);
        text.append(outline(desk, LATER)).append(' ');
        desk.root(SPARE, LATER, 1, 6);
        text.append(outline(desk, LATER)).append(' ');
        desk.toScale(WRITTEN, LATER, 3, 7);
        text.append(outline(desk, LATER)).append(' ');
        text.append(thrown(() -> desk.read(SPARE))).append(' ').append(outline(desk, SPARE));
        return text.append(' ').append(desk.wipe()).toString();
    }

    /** The sign, the precision, the scale, and the first digits and the last ones. */
    private static String outline(DecimalDesk desk, int register) {
        int precision = desk.told(register, 2);
        StringBuilder text = new StringBuilder();
        text.append(desk.told(register, 0)).append('p').append(precision).append('s').append(desk.told(register, 1));
        text.append(':');
        for (int i = 0; i < precision; i++) {
            if (i < DIGITS_SEEN || i >= precision - DIGITS_SEEN) {
                text.append(desk.told(register, 3 + i));
            }
        }
        return text.toString();
    }

    /** What was written last, when that is short. */
    static String lastWritten(DecimalDesk desk) {
        StringBuilder text = new StringBuilder();
        int next = desk.character(0);
        while (next != DecimalDesk.NONE && text.length() < CHARACTERS_READ) {
            text.append((char) next);
            next = desk.character(text.length());
        }
        return text.toString();
    }

    /** How a number is written: as many characters as the call answers, and none behind them. */
    static String written(String number, int kind) {
        StringBuilder text = new StringBuilder();
        int length = 1;
        while (text.length() < length) {
            DecimalDesk desk = desk(number);
            length = desk.written(0, kind);
            int end = Math.min(length, text.length() + CHARACTERS_READ);
            while (text.length() < end) {
                text.append((char) desk.character(text.length()));
            }
            if (desk.character(length) != DecimalDesk.NONE) {
                return text + " and more";
            }
        }
        return text.toString();
    }

    static String of(String... numbers) {
        StringBuilder text = new StringBuilder();
        for (String number : numbers) {
            boolean isLong = number.length() > 3 * DIGITS_SEEN;
            text.append(text.length() == 0 ? " of " : ", ");
            text.append(isLong ? number.substring(0, DIGITS_SEEN) + ".." + number.length() + ".." : number);
        }
        return text.toString();
    }
}
