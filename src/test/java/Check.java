/** What the project's tests share: the count of wrong answers, and of which sentence of the document they are. */
final class Check {
    private static int asked = 0;
    private static int wrong = 0;
    private static String sentence = "";

    private Check() {
    }

    /** The words of the document that the answers from here on are about. */
    static void about(String words) {
        sentence = words;
    }

    static void due(String call, int got, int want) {
        asked++;
        if (got != want) {
            wrong++;
            System.out.println((sentence.isEmpty() ? "" : "[" + sentence + "] ") + call + " answered " + got + ", due is " + want);
        }
    }

    static void fail(String why) {
        due(why, 0, 1);
    }

    /** Numbers that bounds leave out: the first on both sides, and some far away. */
    static int[] outside(int least, int most) {
        return new int[] {least - 1, most + 1, least - 256, most + 256, least - 65536, most + 65536,
            IceLaw.UNKNOWN, IceLaw.FULL, Integer.MIN_VALUE, Integer.MAX_VALUE};
    }

    /** The document's draw, in numbers that do not wrap around. */
    static long drawn(long seed) {
        return (seed * 1103515245L + 12345L) % 2147483648L;
    }

    static void end(String name) {
        System.out.println(name + ": " + asked + " answers, " + wrong + " wrong");
        if (wrong != 0 || asked == 0) {
            System.exit(1);
        }
    }
}
