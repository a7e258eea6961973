/** What the project's tests share: a river from a text, and the count of wrong answers. */
final class Check {
    private static int asked = 0;
    private static int wrong = 0;

    private Check() {
    }

    static void due(String call, int got, int want) {
        asked++;
        if (got != want) {
            wrong++;
            System.out.println(call + " answered " + got + ", due is " + want);
        }
    }

    static void feed(IceLaw law, String text) {
        for (int k = 0; k < text.length(); k++) {
            law.feed(text.charAt(k));
        }
    }

    static int river(IceLaw law, String text) {
        feed(law, text);
        return law.river();
    }

    static IceLaw on(String text) {
        IceLaw law = new IceLaw();
        if (river(law, text) < 0) {
            wrong++;
            System.out.println("the text has a fault: " + text);
        }
        return law;
    }

    static void end(String name) {
        System.out.println(name + ": " + asked + " answers, " + wrong + " wrong");
        if (wrong != 0 || asked == 0) {
            System.exit(1);
        }
    }
}
