import java.util.Random;

/** Draws texts by the document's grammar, some of them a little beyond its bounds. */
final class TextMaker {
    private static final String[] UNITS = {"dry", "edges", "year", "light", "room", "hosed", "paid", "day", "wet"};
    private final Random random;
    private final int places;
    private final int day;
    private final boolean wild;

    TextMaker(Random random, int places, int day) {
        this.random = random;
        this.places = places;
        this.day = day;
        wild = random.nextInt(4) == 0;
    }

    String make(int k) {
        StringBuilder to = new StringBuilder();
        int lines = n(10) == 0 ? 14 + n(5) : k == 1 ? 3 + n(10) : n(8);
        for (int i = 0; i < lines; i++) {
            String line = k == 0 ? law() : k == 1 ? passage() : k == 2 ? entry() : vouch();
            if (to.length() + line.length() > 400) {
                break;
            }
            to.append(line);
        }
        return to.toString();
    }

    private int n(int bound) {
        return random.nextInt(bound);
    }

    private String blank() {
        return n(4) == 0 ? " \n  ".substring(0, 1 + n(4)) : " ";
    }

    private String maybe() {
        return n(3) == 0 ? blank() : "";
    }

    private int bounded(int least, int most) {
        return wild && n(10) == 0 ? Math.max(0, n(2) == 0 ? most + 1 : least - 1) : least + n(Math.max(1, most - least + 1));
    }

    private int place() {
        return bounded(0, places - 1);
    }

    private String passage() {
        int room = bounded(0, 5);
        int to = wild && n(10) == 0 ? bounded(0, 5) : (room + 1 + n(5)) % 6;
        return "room" + blank() + room + maybe() + "room" + maybe() + to + " long " + bounded(1, n(2) == 0 ? 9 : 99) + maybe() + ";" + maybe();
    }

    private String vouch() {
        int one = place();
        int by = wild || places < 2 ? place() : (one + 1 + n(places - 1)) % places;
        return maybe() + "place " + one + blank() + "by " + by + ";" + maybe();
    }

    private String entry() {
        String begin = "on " + (n(8) == 0 ? bounded(0, 999) : Math.min(999, day + n(8))) + blank();
        switch (n(6)) {
            case 0:
            case 1:
                return begin + "buy " + place() + ";";
            case 2:
                return begin + "sell " + place() + maybe() + ";" + maybe();
            case 3:
                return begin + "hang" + maybe() + place() + " in " + bounded(0, 5) + ";";
            case 4:
                return begin + "light " + bounded(0, 5) + " " + bounded(0, 9) + ";";
            default:
                return begin + "hose " + place() + blank() + bounded(0, 7) + ";";
        }
    }

    private String law() {
        String word = new String[] {"creeps", "worth", "comes"}[n(3)];
        return word + " " + sum() + (n(2) == 0 ? " when " + condition(n(4)) : "") + maybe() + ";" + maybe();
    }

    private String condition(int depth) {
        switch (depth <= 0 ? 0 : n(6)) {
            case 1:
                return condition(depth - 1) + " or " + condition(depth - 1);
            case 2:
                return condition(depth - 1) + maybe() + " and " + condition(depth - 1);
            case 3:
                return "not " + condition(depth - 1);
            case 4:
            case 5:
                return "(" + maybe() + condition(depth - 1) + ")";
            default:
                return sum() + "<=>".charAt(n(3)) + maybe() + sum();
        }
    }

    private String sum() {
        StringBuilder to = new StringBuilder(unit());
        for (int i = n(4); i > 0; i--) {
            char sign = "+-*/".charAt(n(4));
            to.append(sign).append(maybe()).append(sign == '/' ? String.valueOf(wild ? n(5) : 1 + n(9)) : unit());
        }
        return to.toString();
    }

    private String unit() {
        return n(3) == 0 ? String.valueOf(n(3) == 0 ? n(10000) : n(30)) : UNITS[n(UNITS.length)];
    }
}
