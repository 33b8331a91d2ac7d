/** What the tests share: calls by texts, whole registers as texts, and the count of wrong answers. */
final class Check {
    private int wrong;
    private int asked;

    void due(String what, Object got, Object want) {
        asked++;
        if (!want.equals(got)) {
            wrong++;
            System.out.println(what + " answered " + got + ", due is " + want);
        }
    }

    void finish() {
        System.out.println(asked + " answers, " + wrong + " wrong");
        if (wrong != 0 || asked == 0) {
            System.exit(1);
        }
    }

    /** The simple name of the exception that a call throws, or "". */
    static String thrown(Runnable call) {
        try {
            call.run();
            return "";
        } catch (RuntimeException e) {
            return e.getClass().getSimpleName();
        }
    }

    static int draft(DecimalDesk desk, String characters) {
        int answer = desk.write(0L);
        for (int i = 0; i < characters.length(); i += 8) {
            long bytes = 0;
            for (int j = Math.min(characters.length(), i + 8) - 1; j >= i; j--) {
                bytes = bytes << 8 | characters.charAt(j);
            }
            answer = desk.write(bytes);
        }
        return answer;
    }

    static void set(DecimalDesk desk, int register, String number) {
        desk.wipe();
        draft(desk, number);
        desk.read(register);
    }

    static DecimalDesk desk(String... numbers) {
        DecimalDesk desk = new DecimalDesk();
        for (int i = 0; i < numbers.length; i++) {
            set(desk, i, numbers[i]);
        }
        return desk;
    }

    /** What told says of a register: the number and the scale, as 12s3. */
    static String told(DecimalDesk desk, int register) {
        StringBuilder text = new StringBuilder();
        int sign = desk.told(register, 0);
        text.append(sign < 0 ? "-" : "");
        int precision = desk.told(register, 2);
        for (int i = 0; i < precision; i++) {
            text.append(desk.told(register, 3 + i));
        }
        return text.append('s').append(desk.told(register, 1)).toString();
    }

    static String written(DecimalDesk desk, int register, int kind) {
        int length = desk.written(register, kind);
        return lastWritten(desk, length);
    }

    private static String lastWritten(DecimalDesk desk, int length) {
        StringBuilder text = new StringBuilder();
        for (int i = 0; i < length; i++) {
            text.append((char) desk.character(i));
        }
        return desk.character(length) == DecimalDesk.NONE ? text.toString() : text + " and more";
    }

    static String lastWritten(DecimalDesk desk) {
        int length = 0;
        while (length < 20000 && desk.character(length) != DecimalDesk.NONE) {
            length++;
        }
        return lastWritten(desk, length);
    }

    /** All that can be asked for without changing anything (the draft by its length). */
    static String state(DecimalDesk desk) {
        StringBuilder text = new StringBuilder();
        for (int i = 0; i < 10; i++) {
            text.append(told(desk, i)).append(' ');
        }
        return text.append(desk.write(0L)).append(' ').append(lastWritten(desk)).toString();
    }

    /** A call that throws must change nothing. */
    void refused(DecimalDesk desk, String what, Runnable call, Class<?> exception) {
        String before = state(desk);
        due(what, thrown(call), exception.getSimpleName());
        due(what + ", the state", state(desk), before);
    }

    void illegal(DecimalDesk desk, String what, Runnable call) {
        refused(desk, what, call, IllegalArgumentException.class);
    }

    void arithmetic(DecimalDesk desk, String what, Runnable call) {
        refused(desk, what, call, ArithmeticException.class);
    }

    static String repeat(String part, int times) {
        return part.repeat(times);
    }
}
