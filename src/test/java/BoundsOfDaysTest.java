/** What Terms and promises 7 and 16 say of a day's bounds: at each bound and one beyond it on either side. */
public final class BoundsOfDaysTest {
    private static final int NONE = DryPlaces.NONE;
    private static final int LEAST = Integer.MIN_VALUE;
    private static final int MOST = Integer.MAX_VALUE;

    public static void main(String[] args) {
        howManyDays();
        nothingIsDone();
        lastDay();
        crossingTheLastDay();
        dayInTheLaw();
        drawsWrap();
        drawsWithoutSign();
        drawOnlyAboveNothing();
        everyCellCreeps();
        wetBehindAll();
        fullPurse();
        linesOnlyAboveNothing();
        whoIsShown();
        daysOfTheDiary();
        lastDayOfTheDiary();
        whatCanBeDone();
        thoughtBounds();
        thoughtAtLeast500();
        thoughtOfAllOwned();
        thoughtOfAFullPurse();
        thoughtByEveryWord();
        thoughtAtTheLastDay();
        Due.close();
    }

    private static void howManyDays() {
        Due.says("7: DAYS go by (1 .. 60): how many CELLS crept.");
        DryPlaces x = new DryPlaces();
        int day = 0;
        for (int n : new int[] {1, 2, 59, 60}) {
            Due.is("days(" + n + ")", x.days(n), 0);
            day += n;
            Due.is("day", x.look(4), day);
            for (int beyond : new int[] {-1, 0, 61, LEAST, MOST}) {
                Due.is("days(" + beyond + ")", x.days(beyond), NONE);
                Due.is("day", x.look(4), day);
            }
        }
        x = Due.shown("creeps 1000; comes 0;", "#####", "#####", "#####", "#####", "#####");
        Due.is("of all days together", x.days(2), 16 + 8);
        Due.is("then the last one", x.days(60), 1);
        Due.is("then none", x.days(60), 0);
        Due.is("a line a day", x.look(5), 2 + 3);
    }

    private static void nothingIsDone() {
        Due.says("7: NONE, and nothing is done, if one can't be");
        DryPlaces x = Due.shown("creeps 1000; comes 5;", "####");
        x.state(9);
        Due.tell(x, 2, "on 0 light 0 4;");
        for (int n : new int[] {0, 61, -1}) {
            Due.is("days(" + n + ")", x.days(n), NONE);
        }
        Due.is("dry", x.shape(0, 0), 4);
        Due.is("seen", x.look(2), 0);
        Due.is("purse", x.look(1), 0);
        Due.is("lines", x.look(5), 2);
        Due.is("STATE", x.look(6), 9);
        Due.is("undoing", x.look(11), 0);
        Due.is("light", x.room(0, 0), 0);
    }

    /** A gallery without places on this day. */
    private static void passUntil(DryPlaces x, int day) {
        while (x.look(4) < day) {
            x.days(Math.min(60, day - x.look(4)));
        }
    }

    private static void lastDay() {
        Due.says("7: NONE, and nothing is done, if .. DAY would be above 9999.");
        DryPlaces x = new DryPlaces();
        passUntil(x, 9939);
        Due.is("sixty, to 9999", x.days(60), 0);
        Due.is("day", x.look(4), 9999);
        for (int n : new int[] {1, 2, 60}) {
            Due.is("above 9999", x.days(n), NONE);
        }
        Due.is("day", x.look(4), 9999);
        Due.is("undo", x.undo(), true);
        Due.is("day", x.look(4), 9998);
        Due.is("two", x.days(2), NONE);
        Due.is("day", x.look(4), 9998);
        Due.is("undoing", x.look(11), 5);
        Due.is("one", x.days(1), 0);
        Due.is("day", x.look(4), 9999);
    }

    private static void crossingTheLastDay() {
        Due.says("7: NONE, and nothing is done, if .. DAY would be above 9999.");
        DryPlaces x = Due.shown("creeps 1000 when day>9938; creeps 0; comes 0;", "###");
        passUntil(x, 9940 - 1);
        x.undo();
        Due.is("day", x.look(4), 9938);
        Due.is("on the second of them all creep", x.days(2), 3);
        Due.is("day", x.look(4), 9940);
        x.row(0, 0, 7);
        Due.is("sixty would be 10000", x.days(60), NONE);
        Due.is("day", x.look(4), 9940);
        Due.is("dry", x.shape(0, 0), 3);
        Due.is("fifty-nine", x.days(59), 3);
        Due.is("day", x.look(4), 9999);
        x.row(0, 0, 7);
        Due.is("no more", x.days(1), NONE);
        Due.is("dry", x.shape(0, 0), 3);
        Due.is("acts go on", x.act(4, 0, 0), true);
        Due.is("on the last day", x.book(x.look(5) - 1, 0), 9999);
    }

    private static void dayInTheLaw() {
        Due.says("Terms 1: DAY 0 .. 9999 (0 at first)");
        DryPlaces x = Due.wetPlaces(1);
        Due.tell(x, 0, "worth day; comes 9 when day=0; comes 8 when day=9999; comes 7;");
        Due.is("worth", x.of(0, 5), 0);
        Due.is("comes", x.of(0, 6), 9);
        x.days(1);
        Due.is("worth", x.of(0, 5), 1);
        Due.is("comes", x.of(0, 6), 7);
        passUntil(x, 9998);
        Due.is("worth", x.of(0, 5), 9998);
        Due.is("comes", x.of(0, 6), 7);
        x.days(1);
        Due.is("worth", x.of(0, 5), 9999);
        Due.is("comes", x.of(0, 6), 8);
    }

    private static void drawsWrap() {
        Due.says("Terms: it becomes 1664525 times itself + 1013904223 (ints, which wrap)");
        for (int state : new int[] {0, 1, -1, LEAST, MOST, LEAST + 1, MOST - 1, 1290, 1291, -609, -610, 0x40000000, 0x80000001}) {
            DryPlaces x = Due.shown("creeps 1; comes 0;", "#.#");
            x.state(state);
            int once = 1664525 * state + 1013904223;
            int twice = 1664525 * once + 1013904223;
            int crept = ((once >>> 8) % 1000 < 1 ? 1 : 0) + ((twice >>> 8) % 1000 < 1 ? 1 : 0);
            Due.is("crept from " + state, x.days(1), crept);
            Due.is("STATE from " + state, x.look(6), twice);
        }
    }

    private static void drawsWithoutSign() {
        Due.says("Terms: then it is its highest 24 bits (without sign) modulo m.");
        int negative = 0;
        for (int i = 0; i < 40; i++) {
            int state = i * 7919;
            int next = 1664525 * state + 1013904223;
            int draw = (next >>> 8) % 1000;
            if (draw == 0) {
                continue;
            }
            negative += next < 0 ? 1 : 0;
            for (int creeps = draw; creeps <= draw + 1; creeps++) {
                DryPlaces x = Due.shown("creeps " + creeps + "; comes 0;", "#");
                x.state(state);
                Due.is("creeps " + creeps + ", drawn " + draw, x.days(1), creeps > draw ? 1 : 0);
            }
        }
        Due.is("some were below 0", negative > 5, true);
    }

    private static void drawOnlyAboveNothing() {
        Due.says("Terms 3: creeps is asked, is it above 0, a DRAW of 1000: below it the CELL is wet");
        String[] laws = {"creeps 0-1;", "creeps 0;", "creeps 1;", "creeps 999;", "creeps 1000;", "creeps 1001;"};
        for (int i = 0; i < laws.length; i++) {
            DryPlaces x = Due.shown(laws[i] + "comes 0;", "#");
            int crept = x.days(1);
            Due.is("a draw by " + laws[i], x.look(6), i < 2 ? 0 : 1013904223);
            // the first draw from 0 is 563
            Due.is("crept by " + laws[i], crept, i < 3 ? 0 : 1);
        }
        int creepingAlways = 0;
        for (int state = 0; state < 100; state++) {
            DryPlaces x = Due.shown("creeps 1000; comes 0;", "#");
            x.state(state * 7919);
            creepingAlways += x.days(1);
        }
        Due.is("1000 is above every draw", creepingAlways, 100);
    }

    private static void everyCellCreeps() {
        Due.says("Terms 3 (b): its dry CELLS that have a wet one (or outside) BESIDE them, by number");
        for (int cell = 0; cell < 64; cell++) {
            DryPlaces x = Due.shown("creeps 1000; comes 0;", "");
            x.row(0, cell / 8, 1 << cell % 8);
            Due.is("in thought, cell " + cell, x.goes(1, 2), 0);
            Due.is("cell " + cell, x.days(1), 1);
            Due.is("it is wet", x.shape(0, 0), 0);
        }
        DryPlaces x = Due.shown("creeps 1000; comes 0;", "########", "########", "########", "########",
            "########", "########", "########", "########");
        for (int due : new int[] {28, 20, 12, 4, 0}) {
            Due.is("from outside", x.days(1), due);
        }
    }

    private static void wetBehindAll() {
        Due.says("Terms 3: as all are at the DAY's (b) beginning .. wet behind all of that PLACE");
        DryPlaces x = Due.shown("creeps 1000 when wet>2; creeps 0; comes 0;", "########");
        Due.is("the two ends, though more would stand free", x.days(1), 2);
        Due.is("row", x.of(0, 10), 126);
        Due.is("a dry one with no wet one beside it is not asked", creptWithin(), 8);
    }

    private static int creptWithin() {
        DryPlaces x = Due.shown("creeps 1000; comes 0;", "###", "###", "###");
        return x.days(1);
    }

    private static void fullPurse() {
        Due.says("Terms 3 (c): SEEN more, PURSE as many more (99999 at most)");
        for (int purse : new int[] {0, 99988, 99989, 99990, 99998, 99999}) {
            DryPlaces x = Due.shown("creeps 0; comes 10;", "#");
            x.purse(purse);
            Due.is("day", x.days(1), 0);
            Due.is("purse from " + purse, x.look(1), Math.min(99999, purse + 10));
            Due.is("seen", x.look(2), 10);
            Due.is("the book tells all", x.book(2, 3), 10);
        }
    }

    private static void linesOnlyAboveNothing() {
        Due.says("THE BOOK: 4: how many CELLS, a line only if above 0; 5: how many, a line only if above 0");
        int[][] laws = {{0, 0}, {0, 1}, {1000, 0}, {1000, 1}};
        for (int[] law : laws) {
            DryPlaces x = Due.shown("creeps " + law[0] + "; comes " + law[1] + ";", "#");
            Due.is("crept", x.days(1), law[0] / 1000);
            Due.is("lines", x.look(5), 2 + law[0] / 1000 + law[1]);
            Due.is("the first new line", x.book(2, 1), law[0] > 0 ? 4 : law[1] > 0 ? 5 : NONE);
            Due.is("how much", x.book(2, 3), law[0] + law[1] > 0 ? 1 : NONE);
        }
    }

    private static void whoIsShown() {
        Due.says("Terms 3 (b): PLACE by PLACE that is OWNED and in a ROOM");
        DryPlaces x = new DryPlaces();
        for (int p = 0; p < 3; p++) {
            Due.place(x, 0, "#");
        }
        Due.tell(x, 0, "worth 0; creeps 1000; comes 1;");
        x.act(0, 1, 0);
        x.act(0, 2, 0);
        x.act(2, 2, 5);
        Due.is("one of three", x.days(1), 1);
        Due.is("seen", x.look(2), 1);
        Due.is("not owned", x.shape(0, 0), 1);
        Due.is("in no room", x.shape(1, 0), 1);
        Due.is("owned and in a room", x.shape(2, 0), 0);
        x.act(2, 1, 0);
        x.act(1, 1, 0);
        x.act(0, 1, 0);
        Due.is("sold and bought again: in no room", x.days(1), 0);
        Due.is("nothing dry is seen all the same", x.look(2), 2);
        x.act(2, 1, 0);
        Due.is("room 0 is a room", x.days(1), 1);
    }

    private static void daysOfTheDiary() {
        Due.says("Terms 3 (a): Line by line of DIARY for it");
        DryPlaces x = new DryPlaces();
        Due.good(x, 2, "on 1 light 1 1; on 0 light 0 1; on 2 light 2 1; on 1 light 1 5;", 4);
        for (int day = 0; day < 4; day++) {
            for (int room = 0; room < 3; room++) {
                Due.is("day " + day + ", room " + room, x.room(room, 0), day > room ? room == 1 ? 5 : 1 : 0);
            }
            x.days(1);
        }
        x = new DryPlaces();
        Due.good(x, 2, "on 0 light 0 3; on 59 light 1 4; on 60 light 2 5;", 3);
        x.days(60);
        Due.is("the first of sixty", x.room(0, 0), 3);
        Due.is("the last of sixty", x.room(1, 0), 4);
        Due.is("the one behind them", x.room(2, 0), 0);
    }

    private static void lastDayOfTheDiary() {
        Due.says("Terms 2: DAY 0 .. 999");
        DryPlaces x = new DryPlaces();
        Due.good(x, 2, "on 998 light 0 8; on 999 light 0 9;", 2);
        passUntil(x, 998);
        Due.is("before", x.room(0, 0), 0);
        x.days(1);
        Due.is("998", x.room(0, 0), 8);
        x.days(1);
        Due.is("999", x.room(0, 0), 9);
        x.act(3, 0, 1);
        passUntil(x, 3000);
        Due.is("never again", x.room(0, 0), 1);
    }

    private static void whatCanBeDone() {
        Due.says("Terms 3 (a): what can be done");
        DryPlaces x = new DryPlaces();
        Due.place(x, 0, "#");
        Due.place(x, 0, "#");
        Due.tell(x, 0, "worth 10; creeps 1000; comes 1;");
        x.purse(19);
        Due.good(x, 2, "on 0 hang 0 in 1; on 0 sell 0; on 0 buy 0; on 0 buy 0; on 0 buy 1; on 0 hang 1 in 2; on 0 hang 0 in 0; on 0 hose 1 7;", 8);
        Due.is("bought and hung that day, it creeps that day", x.days(1), 1);
        Due.is("owned", x.look(3), 1);
        Due.is("purse", x.look(1), 19 - 10 + 1);
        Due.is("hosed though not owned", x.of(1, 3), 1);
        int[] whats = {0, 2, 3, 4, 5, NONE};
        for (int i = 0; i < whats.length; i++) {
            Due.is("line " + i, x.book(i, 1), whats[i]);
        }
        Due.good(x, 2, "on 1 buy 1; on 1 sell 0;", 2);
        Due.is("bought by the last coin, sold that day: nobody comes", x.days(1), 0);
        Due.is("owned", x.look(3), 2);
        Due.is("seen", x.look(2), 1);
        Due.is("purse", x.look(1), 10);
    }

    private static void thoughtBounds() {
        Due.says("16: NONE if one can't be, or another what.");
        DryPlaces x = Due.shown("creeps 0; comes 2;", "###");
        for (int n : new int[] {-1, 0, 61, LEAST, MOST}) {
            for (int what = 0; what < 3; what++) {
                Due.is("goes(" + n + ", " + what + ")", x.goes(n, what), NONE);
            }
        }
        for (int what : new int[] {-1, 3, LEAST, MOST}) {
            Due.is("goes(1, " + what + ")", x.goes(1, what), NONE);
            Due.is("goes(60, " + what + ")", x.goes(60, what), NONE);
        }
        for (int n : new int[] {1, 2, 59, 60}) {
            Due.is("purse in " + n, x.goes(n, 0), 2 * n);
            Due.is("seen in " + n, x.goes(n, 1), 2 * n);
            Due.is("dry in " + n, x.goes(n, 2), 3);
        }
    }

    private static void thoughtAtLeast500() {
        Due.says("Terms 4: it creeps, if creeps is 500 at least");
        for (int creeps : new int[] {0, 1, 499, 500, 501, 1000}) {
            DryPlaces x = Due.shown("creeps " + creeps + "; comes 0;", "#");
            Due.is("creeps " + creeps, x.goes(1, 2), creeps < 500 ? 1 : 0);
            Due.is("no draws", x.look(6), 0);
            Due.is("nothing of it stays", x.shape(0, 0), 1);
        }
    }

    private static void thoughtOfAllOwned() {
        Due.says("Terms 4: dry CELLS of all OWNED then");
        DryPlaces x = new DryPlaces();
        Due.place(x, 0, "#");
        Due.place(x, 0, "##");
        Due.place(x, 0, "####");
        Due.tell(x, 0, "worth 0; creeps 1000;");
        Due.is("none owned", x.goes(1, 2), 0);
        x.act(0, 0, 0);
        x.act(0, 1, 0);
        Due.is("owned, in no room", x.goes(1, 2), 3);
        x.act(2, 1, 0);
        Due.is("one of them in a room", x.goes(1, 2), 1);
        Due.tell(x, 2, "on 1 buy 2; on 2 sell 0;");
        Due.is("in one day", x.goes(1, 2), 1);
        Due.is("in two", x.goes(2, 2), 5);
        Due.is("in three", x.goes(3, 2), 4);
        Due.is("owned as it was", x.look(3), 3);
        Due.is("no line of it", x.look(5), 3);
    }

    private static void thoughtOfAFullPurse() {
        Due.says("Terms 1: PURSE 0 .. 99999");
        DryPlaces x = Due.shown("creeps 0; comes 1;", "#");
        x.purse(99998);
        Due.is("in one day", x.goes(1, 0), 99999);
        Due.is("in two", x.goes(2, 0), 99999);
        Due.is("seen in two", x.goes(2, 1), 2);
        Due.is("purse as it was", x.look(1), 99998);
    }

    /** What comes in thought, by whatever THE LAW asks for, is what comes when those days go by. */
    private static void thoughtByEveryWord() {
        Due.says("Terms 4: GOES for n (1 .. 60) DAYS: PURSE, SEEN, dry CELLS of all OWNED then");
        for (String word : "dry edges year light room hosed paid day wet".split(" ")) {
            DryPlaces x = new DryPlaces();
            Due.place(x, 13, "###", "###");
            Due.place(x, 14, "##");
            Due.tell(x, 0, "worth 21 when paid=0; creeps 1000 when day=1 and wet>2; creeps 0; comes " + word + "+1; worth " + word + "*3;");
            x.purse(60);
            x.act(0, 0, 0);
            x.act(2, 0, 3);
            x.act(3, 3, 5);
            x.act(4, 0, 1);
            Due.tell(x, 2, "on 1 buy 1; on 2 hang 1 in 4; on 2 light 4 8; on 3 hose 1 0; on 4 sell 0;");
            int[][] due = new int[6][3];
            for (int n = 1; n <= 6; n++) {
                for (int what = 0; what < 3; what++) {
                    due[n - 1][what] = x.goes(n, what);
                }
            }
            for (int n = 1; n <= 6; n++) {
                x.days(1);
                int dry = x.of(0, 2) * x.shape(0, 0) + x.of(1, 2) * x.shape(1, 0);
                Due.is("purse by " + word + " in " + n, due[n - 1][0], x.look(1));
                Due.is("seen by " + word + " in " + n, due[n - 1][1], x.look(2));
                Due.is("dry by " + word + " in " + n, due[n - 1][2], dry);
            }
            Due.is("places were bought, hosed, sold", x.look(3), 2);
        }
    }

    private static void thoughtAtTheLastDay() {
        Due.says("16: NONE if one can't be (DAY is not named)");
        DryPlaces x = Due.shown("creeps 0; comes 1;", "#");
        passUntil(x, 9999);
        Due.is("seen", x.look(2), 9999);
        Due.is("goes", x.goes(60, 1), 9999 + 60);
        Due.is("day", x.look(4), 9999);
    }
}
