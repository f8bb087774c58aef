import java.nio.charset.StandardCharsets;
import java.util.ArrayList;
import java.util.List;
import java.util.function.IntUnaryOperator;

/** What the tests share: answers that are due, the sentence that they are due by, and texts put on the tape. */
final class Due {
    private static int wrong = 0;
    private static int asked = 0;
    private static int askedBefore = 0;
    private static final List<String> SENTENCES = new ArrayList<>();

    private Due() {
    }

    /** From here on answers are due by this sentence of the document; a sentence that none is due by is a mistake. */
    static void says(String sentence) {
        endSentence();
        SENTENCES.add(sentence);
        askedBefore = asked;
    }

    /** The sentences that were tested, in their order. */
    static List<String> sentences() {
        endSentence();
        return SENTENCES;
    }

    private static String sentence() {
        return SENTENCES.isEmpty() ? "" : SENTENCES.get(SENTENCES.size() - 1);
    }

    private static void endSentence() {
        if (!SENTENCES.isEmpty() && asked == askedBefore) {
            wrong++;
            System.out.println("\"" + sentence() + "\" has no test");
        }
    }

    static void is(String what, long got, long want) {
        asked++;
        if (got != want) {
            wrong++;
            String by = SENTENCES.isEmpty() ? "" : "\"" + sentence() + "\": ";
            System.out.println(by + what + " answered " + got + ", due is " + want);
        }
    }

    static void is(String what, boolean got, boolean want) {
        is(what, got ? 1 : 0, want ? 1 : 0);
    }

    /** That a call answers NONE for all numbers that are not good, and something else for those that are. */
    static void noOther(String name, IntUnaryOperator call, int... good) {
        for (int number = -300; number < 700; number++) {
            isNone(name, call, number, good);
        }
        for (int number : new int[] {Integer.MIN_VALUE, Integer.MIN_VALUE + 1, -65536, 65536, 1 << 30, Integer.MAX_VALUE}) {
            isNone(name, call, number, good);
        }
    }

    private static void isNone(String name, IntUnaryOperator call, int number, int[] good) {
        boolean isGood = false;
        for (int one : good) {
            isGood |= one == number;
        }
        is(name + " " + number + " is refused", call.applyAsInt(number) == VerandaWar.NONE, !isGood);
    }

    static int[] range(int least, int most) {
        int[] numbers = new int[most - least + 1];
        for (int i = 0; i < numbers.length; i++) {
            numbers[i] = least + i;
        }
        return numbers;
    }

    /** NONE for false, as noOther has it. */
    static int refused(boolean answer) {
        return answer ? 1 : VerandaWar.NONE;
    }

    static void end() {
        System.out.println(wrong == 0 ? asked + " answers, all as due" : wrong + " answers are not as due");
        if (wrong != 0) {
            System.exit(1);
        }
    }

    /** Feeds bytes, with zeros behind them up to a multiple of twenty. */
    static void feed(VerandaWar war, int... bytes) {
        for (int from = 0; from < bytes.length; from += 20) {
            int[] words = new int[5];
            for (int i = 0; i < 20; i++) {
                int next = from + i < bytes.length ? bytes[from + i] : 0;
                words[i / 4] = words[i / 4] << 8 | next & 255;
            }
            war.feed(words[0], words[1], words[2], words[3], words[4]);
        }
    }

    static void feed(VerandaWar war, String text) {
        byte[] bytes = text.getBytes(StandardCharsets.ISO_8859_1);
        int[] numbers = new int[bytes.length];
        for (int i = 0; i < bytes.length; i++) {
            numbers[i] = bytes[i] & 255;
        }
        feed(war, numbers);
    }

    static int law(VerandaWar war, String text) {
        feed(war, text);
        return war.law(text.length());
    }

    static int orders(VerandaWar war, String text) {
        feed(war, text);
        return war.orders(text.length());
    }

    static int signals(VerandaWar war, int side, String text) {
        feed(war, text);
        return war.signals(side, text.length());
    }
}
