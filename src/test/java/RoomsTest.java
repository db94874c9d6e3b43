/** Promises 23, 24, 25 and 28: buys, tour, vouched, game. */
public final class RoomsTest {
    private static final int NONE = DryPlaces.NONE;

    public static void main(String[] args) {
        buys();
        tours();
        vouches();
        games();
        Due.close();
    }

    private static void buys() {
        DryPlaces x = new DryPlaces();
        Due.is("no places", x.buys(9999, 0), 0);
        Due.is("no places", x.buys(9999, 1), 0);
        for (int dry = 1; dry <= 10; dry++) {
            Due.place(x, 0, "########".substring(0, Math.min(8, dry)), "##".substring(0, Math.max(0, dry - 8)));
        }
        Due.tell(x, 0, "worth 9 when dry=10; worth dry*2;");
        Due.is("one too dear", x.buys(1, 0), 0);
        Due.is("the set", x.buys(1, 1), 0);
        Due.is("the least one", x.buys(2, 1), 1);
        Due.is("a cheap one", x.buys(9, 0), 10);
        Due.is("a cheap one", x.buys(9, 1), 512);
        Due.is("of several the least", x.buys(15, 0), 13);
        Due.is("of several the least", x.buys(15, 1), 512 + 3);
        Due.is("all", x.buys(9999, 1), 1023);
        Due.is("all", x.buys(99, 0), 55);
        Due.is("all but the first", x.buys(98, 1), 1022);
        x.purse(99);
        x.act(0, 9, 0);
        x.act(0, 0, 0);
        Due.is("not those owned", x.buys(9999, 1), 510);
        Due.is("not those owned", x.buys(9, 0), 4);
        Due.is("not those owned", x.buys(9, 1), 8);
        Due.is("buys(0)", x.buys(0, 0), NONE);
        Due.is("buys(10000)", x.buys(10000, 0), NONE);
        Due.is("buys what 2", x.buys(5, 2), NONE);
        Due.is("buys what -1", x.buys(5, -1), NONE);
        Due.is("purse is not asked", x.buys(9999, 0), 44);
    }

    private static void tour(DryPlaces x, int room, int length, int last) {
        Due.is("tour(" + room + ", 0)", x.tour(room, 0), length);
        Due.is("tour(" + room + ", 1)", x.tour(room, 1), last);
    }

    private static void tours() {
        DryPlaces x = new DryPlaces();
        tour(x, 0, NONE, NONE);
        Due.tell(x, 1, "room 0 room 1 long 1;room 0 room 2 long 1;room 0 room 3 long 1;room 0 room 4 long 1;");
        tour(x, 0, NONE, NONE);
        tour(x, 5, NONE, NONE);
        // a star: all but the last ray there and back
        Due.tell(x, 1, "room 0 room 1 long 2;room 0 room 2 long 3;room 0 room 3 long 1;room 0 room 4 long 3;room 5 room 0 long 1;");
        tour(x, 0, 2 * 10 - 3, 2);
        tour(x, 2, 2 * 10 - 3 - 3, 4);
        tour(x, 4, 2 * 10 - 3 - 3, 2);
        tour(x, 3, 2 * 10 - 1 - 3, 2);
        // a ring
        Due.tell(x, 1, "room 0 room 1 long 5;room 1 room 2 long 5;room 2 room 3 long 5;room 3 room 4 long 5;room 4 room 5 long 5;room 5 room 0 long 9;");
        tour(x, 0, 25, 5);
        tour(x, 3, 29, 2);
        tour(x, 2, 29, 1);
        // a line with 0 at its end, then with 0 in its middle
        Due.tell(x, 1, "room 0 room 1 long 5;room 1 room 2 long 5;room 2 room 3 long 5;room 3 room 4 long 5;room 4 room 5 long 5;");
        tour(x, 5, 25, 0);
        tour(x, 4, 30, 0);
        tour(x, 1, 30, 5);
        Due.tell(x, 1, "room 2 room 1 long 5;room 1 room 0 long 5;room 0 room 3 long 5;room 3 room 4 long 5;room 4 room 5 long 5;");
        tour(x, 2, 25, 5);
        tour(x, 5, 25, 2);
        Due.is("tour(6, 0)", x.tour(6, 0), NONE);
        Due.is("tour(-1, 0)", x.tour(-1, 0), NONE);
        Due.is("tour(0, 2)", x.tour(0, 2), NONE);
        Due.is("tour(0, -1)", x.tour(0, -1), NONE);
    }

    private static void vouches() {
        DryPlaces x = new DryPlaces();
        for (int i = 0; i < 10; i++) {
            x.place(i);
        }
        Due.is("nobody", x.vouched(0), 0);
        Due.tell(x, 3, "place 0 by 1;place 1 by 2;place 2 by 3;place 3 by 4;place 4 by 5;place 5 by 6;place 6 by 7;place 7 by 8;place 8 by 9;");
        Due.is("a chain", x.vouched(0), 1022);
        Due.is("its middle", x.vouched(5), 512 + 256 + 128 + 64);
        Due.is("its end", x.vouched(9), 0);
        Due.tell(x, 3, "place 9 by 8;place 8 by 7;place 7 by 6;place 6 by 5;place 5 by 4;place 4 by 3;place 3 by 2;place 2 by 1;place 1 by 0;");
        Due.is("a chain backwards", x.vouched(9), 511);
        Due.tell(x, 3, "place 0 by 1;place 1 by 2;place 2 by 0;place 3 by 0;place 5 by 4;");
        Due.is("a round", x.vouched(0), 7);
        Due.is("into a round", x.vouched(3), 7);
        Due.is("one way", x.vouched(4), 0);
        Due.is("one way", x.vouched(5), 16);
        Due.is("no place", x.vouched(10), NONE);
        Due.is("no place", x.vouched(-1), NONE);
    }

    private static void game(DryPlaces x, int which, int much) {
        Due.is("game(0)", x.game(0), which);
        Due.is("game(1)", x.game(1), much);
    }

    private static void games() {
        DryPlaces x = new DryPlaces();
        game(x, NONE, NONE);
        Due.place(x, 0, "#");
        Due.place(x, 0, "##");
        Due.place(x, 0, "###");
        Due.place(x, 0, "#");
        Due.place(x, 0);
        Due.place(x, 0, "##");
        x.purse(9999);
        game(x, NONE, NONE);
        x.act(0, 4, 0);
        game(x, NONE, NONE);
        x.act(0, 1, 0);
        // six edges: whoever begins loses
        game(x, NONE, NONE);
        x.act(0, 3, 0);
        game(x, 1, 2);
        x.act(0, 0, 0);
        game(x, NONE, NONE);
        x.act(0, 2, 0);
        // 4, 6, 8 and 4 leave 4, 0, 2, 4 by six: of the first one none can leave 6, of the second four leave 2
        game(x, 1, 4);
        x.act(1, 0, 0);
        x.act(1, 3, 0);
        // 6 and 8: from 6 four leave 2, as the other's remainder is
        game(x, 1, 4);
        x.act(0, 0, 0);
        x.act(1, 2, 0);
        // 4 and 6: all four of the first one
        game(x, 0, 4);
        Due.is("game(2)", x.game(2), NONE);
        Due.is("game(-1)", x.game(-1), NONE);
    }
}
