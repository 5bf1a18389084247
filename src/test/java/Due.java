/** What the tests share: answers that are due, and texts put on the tape. */
final class Due {
    private int wrong = 0;
    private int asked = 0;
    private String promise = "";

    void promise(int number, String name) {
        promise = "promise " + number + " (" + name + ")";
    }

    /** The document's own words, so that a failing test says which sentence does not hold. */
    void sentence(String where, String words) {
        promise = where + " \"" + words + "\"";
    }

    void is(String call, long got, long due) {
        asked++;
        if (got != due) {
            wrong++;
            System.out.println(promise + ": " + call + " answered " + got + ", due is " + due);
        }
    }

    void isSo(String what, boolean so) {
        is(what, so ? 1 : 0, 1);
    }

    void close() {
        System.out.println(wrong == 0 ? asked + " answers are as due" : wrong + " answers are not as due");
        if (wrong != 0) System.exit(1);
    }

    /** The bytes of a text come behind the tape (which must be empty), and no others. */
    static HedgeCouncil tape(HedgeCouncil x, String text) {
        for (int i = 0; i < text.length(); i += 20) {
            int[] v = new int[5];
            for (int k = 0; k < 20; k++) {
                int b = i + k < text.length() ? text.charAt(i + k) : 0;
                v[k / 4] = v[k / 4] << 8 | b;
            }
            x.feed(v[0], v[1], v[2], v[3], v[4]);
        }
        x.end(text.length());
        return x;
    }

    /** Bytes by their numbers: a row. */
    static int row(HedgeCouncil x, int... bytes) {
        StringBuilder text = new StringBuilder();
        for (int b : bytes) text.append((char) b);
        return tape(x, text.toString()).row();
    }

    /** A law is made and is in force. */
    static HedgeCouncil under(HedgeCouncil x, String text) {
        int number = law(x, text);
        if (number < 0) throw new IllegalArgumentException("no law: " + text);
        x.force(number);
        return x;
    }

    static int law(HedgeCouncil x, String text) {
        return tape(x, text).law();
    }

    static int orders(HedgeCouncil x, String text) {
        return tape(x, text).orders();
    }

    /** So many hedgehogs that want the same and are not shy. */
    static HedgeCouncil council(int many, int want) {
        HedgeCouncil x = new HedgeCouncil();
        for (int i = 0; i < many; i++) x.hedgehog(want, 0);
        return x;
    }

    /** Each but the first watches the one with the number below. */
    static HedgeCouncil line(int many) {
        HedgeCouncil x = council(many, 1);
        for (int i = 1; i < many; i++) x.watch(i, i - 1, 1);
        return x;
    }
}
