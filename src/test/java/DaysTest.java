/** Promises 7 and 16: days, goes. */
public final class DaysTest {
    public static void main(String[] args) {
        bounds();
        lastDay();
        creeping();
        creepingLooksAtTheBeginning();
        drawsAtTheEdge();
        visitors();
        fullPurse();
        diary();
        diaryOfWhatCannotBe();
        thought();
        Due.close();
    }

    private static DryPlaces shown(int year, String... rows) {
        DryPlaces x = new DryPlaces();
        Due.place(x, year, rows);
        x.purse(9999);
        x.act(0, 0, 0);
        x.act(2, 0, 0);
        x.purse(0);
        return x;
    }

    private static void bounds() {
        DryPlaces x = shown(0, "###");
        for (int n : new int[] {0, -1, 61, Integer.MIN_VALUE, Integer.MAX_VALUE}) {
            Due.is("days(" + n + ")", x.days(n), DryPlaces.NONE);
            Due.is("goes(" + n + ", 0)", x.goes(n, 0), DryPlaces.NONE);
        }
        Due.is("nothing is done", x.look(4), 0);
        Due.is("no draws", x.look(6), 0);
        Due.is("goes what -1", x.goes(1, -1), DryPlaces.NONE);
        Due.is("goes what 3", x.goes(1, 3), DryPlaces.NONE);
        Due.is("days(60)", x.days(60) >= 0, true);
        Due.is("day", x.look(4), 60);
    }

    private static void lastDay() {
        DryPlaces x = new DryPlaces();
        for (int i = 0; i < 166; i++) {
            x.days(60);
        }
        Due.is("day", x.look(4), 9960);
        Due.is("one too many", x.days(40), DryPlaces.NONE);
        Due.is("nothing is done", x.look(4), 9960);
        Due.is("just so many", x.days(39), 0);
        Due.is("day", x.look(4), 9999);
        Due.is("no more", x.days(1), DryPlaces.NONE);
    }

    /** The draws of a row of cells, reckoned here by hand. */
    private static void creeping() {
        DryPlaces x = shown(0, "########", "########", "########");
        Due.tell(x, 0, "creeps 300*wet; comes 0;");
        x.state(12345);
        int state = 12345;
        int crept = 0;
        int[] rows = {255, 255, 255};
        for (int cell = 0; cell < 24; cell++) {
            int r = cell / 8;
            int c = cell % 8;
            int wet = (r == 0 || r == 2 ? 1 : 0) + (c == 0 || c == 7 ? 1 : 0);
            if (wet > 0) {
                state = 1664525 * state + 1013904223;
                if ((state >>> 8) % 1000 < 300 * wet) {
                    rows[r] &= ~(1 << c);
                    crept++;
                }
            }
        }
        Due.is("days(1)", x.days(1), crept);
        Due.is("some, not all", crept > 0 && crept < 18, true);
        for (int r = 0; r < 3; r++) {
            Due.is("row " + r, x.of(0, 10 + r), rows[r]);
        }
        Due.is("STATE", x.look(6), state);
        Due.is("the book", x.book(2, 1), 4);
        Due.is("the book", x.book(2, 3), crept);
        Due.is("none came, no line", x.look(5), 3);
    }

    private static void creepingLooksAtTheBeginning() {
        DryPlaces x = shown(0, "####");
        Due.tell(x, 0, "creeps 1000 when dry=4 and edges=10; creeps 0; comes 0;");
        Due.is("all at once", x.days(1), 4);
        Due.is("a draw each", x.look(6) != 0, true);
        x = shown(0, "####");
        Due.tell(x, 0, "creeps 0-5; comes 0;");
        Due.is("none", x.days(5), 0);
        Due.is("no draw", x.look(6), 0);
        Due.is("no line", x.look(5), 2);
        x = shown(0, "#####", "#####", "#####");
        Due.tell(x, 0, "creeps 1000;");
        Due.is("not those within", x.days(1), 12);
        Due.is("row 1", x.of(0, 11), 14);
        Due.is("then they too", x.days(1), 3);
        x = shown(0, "#");
        x.act(1, 0, 0);
        Due.tell(x, 0, "creeps 1000;");
        Due.is("not owned", x.days(1), 0);
        x.act(0, 0, 0);
        Due.is("in no room", x.days(1), 0);
        x.act(2, 0, 1);
        Due.is("in a room", x.days(1), 1);
    }

    /** A state whose next draw of 1000 is the one wanted. */
    private static int stateBefore(int draw) {
        int state = 0;
        while ((1664525 * state + 1013904223 >>> 8) % 1000 != draw) {
            state++;
        }
        return state;
    }

    private static void drawsAtTheEdge() {
        int[][] edges = {{300, 300, 0}, {300, 299, 1}, {1, 0, 1}, {1, 1, 0}, {1000, 999, 1}, {999, 999, 0}};
        for (int[] edge : edges) {
            DryPlaces x = shown(0, "#");
            Due.tell(x, 0, "creeps " + edge[0] + "; comes 0;");
            x.state(stateBefore(edge[1]));
            Due.is("creeps " + edge[0] + ", drawn " + edge[1], x.days(1), edge[2]);
            Due.is("its line", x.look(5), 2 + edge[2]);
            Due.is("dry", x.shape(0, 0), 1 - edge[2]);
        }
    }

    private static void visitors() {
        DryPlaces x = shown(9, "########", "########");
        x.place(1);
        Due.tell(x, 0, "creeps 0; comes dry+light+day*2+1;");
        x.act(3, 0, 3);
        Due.is("days(2)", x.days(2), 0);
        Due.is("seen", x.look(2), 20 + 22);
        Due.is("purse", x.look(1), 42);
        Due.is("book day", x.book(2, 0), 0);
        Due.is("book what", x.book(2, 1), 5);
        Due.is("book which", x.book(2, 2), 0);
        Due.is("book much", x.book(2, 3), 20);
        Due.is("book day", x.book(3, 0), 1);
        Due.is("book much", x.book(3, 3), 22);
        x = shown(9, "########", "########");
        Due.tell(x, 0, "creeps 1000; comes dry;");
        Due.is("crept first", x.days(1), 16);
        Due.is("then none comes", x.look(2), 0);
        x = shown(0, "#");
        Due.tell(x, 0, "creeps 0;");
        Due.is("nobody", x.days(1), 0);
        Due.is("no line of nobody", x.look(5), 2);
    }

    private static void fullPurse() {
        DryPlaces x = shown(0, "#");
        Due.tell(x, 0, "creeps 0; comes 90;");
        x.purse(99950);
        x.days(1);
        Due.is("purse", x.look(1), 99999);
        Due.is("seen", x.look(2), 90);
        Due.is("goes", x.goes(60, 0), 99999);
        Due.is("goes seen", x.goes(60, 1), 90 * 61);
    }

    private static void diary() {
        DryPlaces x = new DryPlaces();
        Due.place(x, 10, "########");
        Due.place(x, 20, "####");
        x.purse(89);
        Due.tell(x, 0, "creeps 0; comes light;");
        Due.is("diary", Due.tell(x, 2, "on 1 hang 0 in 2; on 0 buy 0; on 0 buy 1; on 0 hang 0 in 1; on 0 light 1 7; on 1 hose 1 0; on 1 sell 0;"), 7);
        Due.is("day 0", x.days(1), 0);
        Due.is("one was bought, the other too dear", x.look(3), 1);
        Due.is("room", x.of(0, 1), 1);
        Due.is("light", x.room(1, 0), 7);
        Due.is("seen", x.look(2), 7);
        Due.is("purse", x.look(1), 39 + 7);
        Due.is("one undoing for the day", x.look(11), 1);
        Due.is("day 1", x.days(1), 0);
        Due.is("sold", x.look(3), 0);
        Due.is("purse", x.look(1), 96);
        Due.is("hosed", x.of(1, 3), 1);
        Due.is("hosed row", x.of(1, 10), 0);
        int[] whats = {0, 2, 5, 2, 3, 1};
        for (int i = 0; i < whats.length; i++) {
            Due.is("book line " + i, x.book(i, 1), whats[i]);
            Due.is("its day", x.book(i, 0), i < 3 ? 0 : 1);
        }
        Due.is("lines", x.look(5), 6);
        x.undo();
        Due.is("the day undone", x.look(3), 1);
        Due.is("its hose too", x.of(1, 10), 15);
        Due.is("its lines too", x.look(5), 3);
    }

    private static void diaryOfWhatCannotBe() {
        DryPlaces x = new DryPlaces();
        Due.place(x, 10, "########");
        Due.is("diary", Due.tell(x, 2, "on 0 sell 0; on 0 hang 0 in 1; on 0 buy 0; on 2 buy 0;"), 4);
        Due.is("days", x.days(2), 0);
        Due.is("nothing could be done", x.look(5), 0);
        x.purse(50);
        Due.is("days", x.days(1), 0);
        Due.is("bought on day 2", x.look(3), 1);
    }

    private static void thought() {
        DryPlaces x = shown(0, "#####", "#####", "#####");
        x.purse(100);
        Due.tell(x, 0, "creeps 499+wet-1 when wet<9 and day<2; creeps 0; comes 2;");
        Due.is("purse in one day", x.goes(1, 0), 102);
        Due.is("seen in one day", x.goes(1, 1), 2);
        Due.is("dry in one day: the corners are gone", x.goes(1, 2), 11);
        Due.is("and in two", x.goes(2, 2), 5);
        Due.is("and in sixty", x.goes(60, 2), 5);
        Due.is("purse in sixty", x.goes(60, 0), 220);
        Due.is("nothing of it stays: dry", x.shape(0, 0), 15);
        Due.is("nothing of it stays: purse", x.look(1), 100);
        Due.is("nothing of it stays: day", x.look(4), 0);
        Due.is("nothing of it stays: draws", x.look(6), 0);
        Due.is("nothing of it stays: the book", x.look(5), 2);
        Due.is("nothing of it stays: undoing", x.look(11), 0);
        Due.tell(x, 2, "on 3 sell 0; on 2 hose 0 1;");
        Due.is("what the diary does", x.goes(3, 2), 2);
        Due.is("dry of those owned then", x.goes(4, 2), 0);
        Due.is("and its price", x.goes(4, 0), 100 + 3 * 2 + 10);
    }
}
