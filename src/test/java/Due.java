/** Counts the answers that are not as due, and tells a gallery things that take several calls. */
final class Due {
    private static int asked = 0;
    private static int wrong = 0;
    private static String sentence = "";

    private Due() {
    }

    /** The document's sentence that the answers below are due by. */
    static void says(String words) {
        sentence = words + " | ";
    }

    static void is(String call, long got, long want) {
        asked++;
        if (got != want) {
            wrong++;
            System.out.println(sentence + call + " answered " + got + ", due is " + want);
        }
    }

    static void is(String call, boolean got, boolean want) {
        is(call, got ? 1L : 0L, want ? 1L : 0L);
    }

    /** Prints how it went and ends the test. */
    static void close() {
        System.out.println(wrong == 0 ? asked + " answers are as due" : wrong + " answers of " + asked + " are not as due");
        System.exit(wrong == 0 ? 0 : 1);
    }

    /** Puts the signs of a text on an empty tape. */
    static void write(DryPlaces x, String text) {
        for (int i = 0; i < text.length(); i += 20) {
            int[] five = new int[5];
            for (int j = 0; j < 20; j++) {
                int sign = i + j < text.length() ? text.charAt(i + j) : ' ';
                five[j / 4] = five[j / 4] << 8 | sign;
            }
            x.feed(five[0], five[1], five[2], five[3], five[4]);
        }
        x.end(text.length());
    }

    /** Tells text k: what text(k) answers. */
    static int tell(DryPlaces x, int k, String text) {
        write(x, text);
        return x.text(k);
    }

    /** Asks for text k, which has this fault at this place. */
    static void faulty(DryPlaces x, int k, String text, int fault, int at) {
        is("text " + k + " '" + text + "'", tell(x, k, text), DryPlaces.NONE);
        is("fault(0) of '" + text + "'", x.fault(0), fault);
        is("fault(1) of '" + text + "'", x.fault(1), at);
    }

    /** Asks for text k, which has no fault and so many lines. */
    static void good(DryPlaces x, int k, String text, int lines) {
        is("text " + k + " '" + text + "'", tell(x, k, text), lines);
        is("fault(0) of '" + text + "'", x.fault(0), 0);
        is("fault(1) of '" + text + "'", x.fault(1), DryPlaces.NONE);
    }

    /** So many places, all wet, of the years 0, 1, .. */
    static DryPlaces wetPlaces(int count) {
        DryPlaces x = new DryPlaces();
        for (int p = 0; p < count; p++) {
            x.place(p);
        }
        return x;
    }

    /** A place alone, bought for nothing and hung in room 0, with this law, an empty purse and a book of two lines. */
    static DryPlaces shown(String law, String... rows) {
        DryPlaces x = new DryPlaces();
        place(x, 0, rows);
        tell(x, 0, "worth 0;");
        x.act(0, 0, 0);
        x.act(2, 0, 0);
        is("law '" + law + "'", tell(x, 0, law) > 0, true);
        x.purse(0);
        return x;
    }

    /** A further place, its dry cells told by rows of signs: # is dry. */
    static int place(DryPlaces x, int year, String... rows) {
        int p = x.place(year);
        for (int r = 0; r < rows.length; r++) {
            int bits = 0;
            for (int c = 0; c < rows[r].length(); c++) {
                bits |= rows[r].charAt(c) == '#' ? 1 << c : 0;
            }
            x.row(p, r, bits);
        }
        return p;
    }
}
