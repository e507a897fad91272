/** Counts the answers that are not as due, and tells them. */
final class Check {
    private int wrong = 0;
    private int asked = 0;
    private String about = "";

    void about(String promise) {
        about = promise;
    }

    void due(String call, long got, long want) {
        asked++;
        if (got != want) {
            wrong++;
            System.out.println(about + ": " + call + " answered " + got + ", due is " + want);
        }
    }

    void holds(String what, boolean is) {
        due(what, is ? 1 : 0, 1);
    }

    void end(String name) {
        System.out.println(name + ": " + asked + " answers, " + wrong + " not as due");
        if (wrong != 0) {
            System.exit(1);
        }
    }

    static int house(SeaJar x, String text) {
        for (char letter : text.toCharArray()) {
            x.type(letter);
        }
        return x.house();
    }

    static SeaJar jarOf(String text) {
        SeaJar x = new SeaJar();
        if (house(x, text) < 1) {
            throw new IllegalArgumentException(text);
        }
        return x;
    }

    /** All that can be asked for without a change, but what sheets hold. */
    static String seen(SeaJar x) {
        StringBuilder all = new StringBuilder();
        for (int what = 0; what <= 10; what++) {
            all.append(x.count(what)).append(' ');
        }
        for (int who = 0; who < x.count(0); who++) {
            for (int what = 0; what <= 6; what++) {
                all.append(x.of(who, what)).append(' ');
            }
        }
        int draw = x.seed(0);
        x.seed(draw);
        return all.append(draw).toString();
    }
}
