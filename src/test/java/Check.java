/** What the tests share: armies made from texts, answers compared with what is due. */
final class Check {
    private static int wrong = 0;

    private Check() {
    }

    static void due(String what, long got, long want) {
        if (got != want) {
            wrong++;
            System.out.println(what + " answered " + got + ", due is " + want);
        }
    }

    /** A new object with the text written, eight bytes at a time. */
    static HearsayMarch withText(String text) {
        HearsayMarch x = new HearsayMarch();
        write(x, text);
        return x;
    }

    /** A new object whose army is the text. */
    static HearsayMarch withArmy(String text) {
        HearsayMarch x = withText(text);
        due("army() of " + text, x.army() >= 0 ? 1 : 0, 1);
        return x;
    }

    static void write(HearsayMarch x, String text) {
        for (int from = 0; from < text.length(); from += 8) {
            String part = text.substring(from, Math.min(text.length(), from + 8));
            long bytes = 0;
            for (int i = 0; i < part.length(); i++) {
                bytes = bytes << 8 | part.charAt(i);
            }
            due("write of " + part, x.write(part.length(), bytes), from + part.length());
        }
    }

    static void rewrite(HearsayMarch x, String text) {
        x.wipe();
        write(x, text);
    }

    static void dueRank(HearsayMarch x, int rank, int... wanted) {
        for (int what = 0; what < wanted.length; what++) {
            due("rank(" + rank + ", " + what + ")", x.rank(rank, what), wanted[what]);
        }
    }

    static void end() {
        System.out.println(wrong == 0 ? "all answers are as due" : wrong + " answers are not as due");
        if (wrong != 0) {
            System.exit(1);
        }
    }
}
