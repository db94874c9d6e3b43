/** Promises 8 to 11, 13 and 14: feed, end, text, fault, creeps, room; and what THE LAW tells. */
public final class TextTest {
    public static void main(String[] args) {
        tape();
        texts();
        lawFaults();
        passageFaults();
        diaryFaults();
        vouchFaults();
        tokens();
        seventeenthLine();
        ninthOpen();
        otherwise();
        reckoning();
        conditions();
        deepest();
        held();
        known();
        creeps();
        passages();
        Due.close();
    }

    private static void tape() {
        DryPlaces x = new DryPlaces();
        Due.is("end(0)", x.end(0), true);
        Due.is("end(1)", x.end(1), false);
        Due.is("end(-1)", x.end(-1), false);
        for (int i = 1; i <= 20; i++) {
            Due.is("feed", x.feed(0, 0, 0, 0, 0), 20 * i);
        }
        Due.is("a full tape", x.feed(0, 0, 0, 0, 0), DryPlaces.NONE);
        Due.is("end(401)", x.end(401), false);
        Due.is("end(400)", x.end(400), true);
        Due.is("end(381)", x.end(381), true);
        Due.is("no space for twenty", x.feed(0, 0, 0, 0, 0), DryPlaces.NONE);
        Due.is("nothing came", x.end(382), false);
        Due.is("end(380)", x.end(380), true);
        Due.is("space for twenty", x.feed(0, 0, 0, 0, 0), 400);
        x.end(0);
        // the highest byte first
        x.feed(0x776F7274, 0x68203132, 0x3B000000, 0, 0);
        x.end(9);
        Due.is("text(0)", x.text(0), 1);
        x.place(0);
        Due.is("worth", x.of(0, 5), 12);
        Due.is("the tape is empty then", x.end(1), false);
        x.feed(-1, -1, -1, -1, -1);
        Due.is("a fault", x.text(0), DryPlaces.NONE);
        Due.is("the tape is empty then", x.end(1), false);
    }

    private static void texts() {
        DryPlaces x = new DryPlaces();
        Due.place(x, 0, "#");
        Due.is("empty", x.text(0), 0);
        Due.is("blanks", Due.tell(x, 1, " \n\n "), 0);
        Due.is("law", Due.tell(x, 0, "worth 1;worth 2;"), 2);
        Due.faulty(x, 0, "worth 3; worth", 1, 14);
        Due.is("it stays as it was", x.look(7), 2);
        Due.is("it stays as it was", x.of(0, 5), 1);
        Due.is("text(-1)", x.text(-1), DryPlaces.NONE);
        Due.is("fault(0)", x.fault(0), 0);
        Due.is("fault(1)", x.fault(1), DryPlaces.NONE);
        Due.faulty(x, 1, "x", 1, 0);
        Due.is("text(4)", x.text(4), DryPlaces.NONE);
        Due.is("fault(0)", x.fault(0), 0);
        Due.is("fault(1)", x.fault(1), DryPlaces.NONE);
        Due.is("fault(2)", x.fault(2), DryPlaces.NONE);
        Due.is("fault(-1)", x.fault(-1), DryPlaces.NONE);
        Due.faulty(x, 3, "x", 1, 0);
        Due.is("law anew", Due.tell(x, 0, "worth 5;"), 1);
        Due.is("fault(0)", x.fault(0), 0);
        Due.is("fault(1)", x.fault(1), DryPlaces.NONE);
        Due.is("it is the new one alone", x.of(0, 5), 5);
        Due.is("none", Due.tell(x, 0, ""), 0);
        Due.is("worth without a law", x.of(0, 5), 5);
    }

    private static void lawFaults() {
        DryPlaces x = new DryPlaces();
        Due.faulty(x, 0, ";", 1, 0);
        Due.faulty(x, 0, "dry 1;", 1, 0);
        Due.faulty(x, 0, "worth", 1, 5);
        Due.faulty(x, 0, "worth  ", 1, 7);
        Due.faulty(x, 0, "worth ;", 1, 6);
        Due.faulty(x, 0, "worth -1;", 1, 6);
        Due.faulty(x, 0, "worth (1);", 1, 6);
        Due.faulty(x, 0, "worth 1 2;", 1, 8);
        Due.faulty(x, 0, "worth 1 dry;", 1, 8);
        Due.faulty(x, 0, "worth 1+;", 1, 8);
        Due.faulty(x, 0, "worth 1++1;", 1, 8);
        Due.faulty(x, 0, "worth 1*;", 1, 8);
        Due.faulty(x, 0, "worth 1/dry;", 1, 8);
        Due.faulty(x, 0, "worth 1/0;", 2, 8);
        Due.faulty(x, 0, "worth 1/0000;", 2, 8);
        Due.faulty(x, 0, "worth 1/00000;", 1, 8);
        Due.faulty(x, 0, "worth 1<2;", 1, 7);
        Due.faulty(x, 0, "worth 1 when;", 1, 12);
        Due.faulty(x, 0, "worth 1 when 1;", 1, 14);
        Due.faulty(x, 0, "worth 1 when 1<;", 1, 15);
        Due.faulty(x, 0, "worth 1 when 1<2<3;", 1, 16);
        Due.faulty(x, 0, "worth 1 when 1<2 when 1<2;", 1, 17);
        Due.faulty(x, 0, "worth 1 when 1<2 and;", 1, 20);
        Due.faulty(x, 0, "worth 1 when or 1<2;", 1, 13);
        Due.faulty(x, 0, "worth 1 when 1<2 not 1<2;", 1, 17);
        Due.faulty(x, 0, "worth 1 when (1<2;", 1, 17);
        Due.faulty(x, 0, "worth 1 when (1)<2;", 1, 15);
        Due.faulty(x, 0, "worth 1 when 1<2);", 1, 16);
        Due.faulty(x, 0, "worth 1 when (1<2) 3;", 1, 19);
        Due.faulty(x, 0, "worth 1 when 1<(2);", 1, 15);
        Due.faulty(x, 0, "worth 1 when not;", 1, 16);
        Due.faulty(x, 0, "worth 1 when not ;", 1, 17);
        Due.faulty(x, 0, "worth 1 when 1<2/0;", 2, 17);
        Due.faulty(x, 0, "worth 1 worth 2;", 1, 8);
        Due.faulty(x, 0, "worth 1;;", 1, 8);
        Due.faulty(x, 0, "worth buy;", 1, 6);
        Due.faulty(x, 0, "worth 1/0 1/0 x", 2, 8);
        Due.faulty(x, 0, "worth 1 when 1=1", 1, 16);
    }

    private static void passageFaults() {
        DryPlaces x = new DryPlaces();
        Due.faulty(x, 1, "room", 1, 4);
        Due.faulty(x, 1, "room room", 1, 5);
        Due.faulty(x, 1, "room 6", 2, 5);
        Due.faulty(x, 1, "room 9999", 2, 5);
        Due.faulty(x, 1, "room 10000", 1, 5);
        Due.faulty(x, 1, "room 5 5", 1, 7);
        Due.faulty(x, 1, "room 5 room 5 long 1;", 2, 12);
        Due.faulty(x, 1, "room 5 room 6 long 1;", 2, 12);
        Due.faulty(x, 1, "room 5 room 4 by 1;", 1, 14);
        Due.faulty(x, 1, "room 5 room 4 long 0;", 2, 19);
        Due.faulty(x, 1, "room 5 room 4 long 100;", 2, 19);
        Due.faulty(x, 1, "room 5 room 4 long 99", 1, 21);
        Due.faulty(x, 1, "room 5 room 4 long 99 9", 1, 22);
        Due.faulty(x, 1, "room 5 room 4 long 99; long", 1, 23);
        Due.is("good", Due.tell(x, 1, "room5room4long99;room 0005 room\n0004 long 0001;"), 2);
        Due.is("length", x.room(4, 15), 1);
    }

    private static void diaryFaults() {
        DryPlaces x = new DryPlaces();
        Due.faulty(x, 2, "on 0 buy 0;", 2, 9);
        x.place(1);
        x.place(2);
        Due.faulty(x, 2, "at", 1, 0);
        Due.faulty(x, 2, "on buy", 1, 3);
        Due.faulty(x, 2, "on 1000 buy 0;", 2, 3);
        Due.faulty(x, 2, "on 999 0", 1, 7);
        Due.faulty(x, 2, "on 999 wipe 0", 1, 7);
        Due.faulty(x, 2, "on 999 buy 2;", 2, 11);
        Due.faulty(x, 2, "on 999 sell 2;", 2, 12);
        Due.faulty(x, 2, "on 999 hang 2 in 0;", 2, 12);
        Due.faulty(x, 2, "on 999 hose 2 0;", 2, 12);
        Due.faulty(x, 2, "on 999 buy 1 1;", 1, 13);
        Due.faulty(x, 2, "on 999 hang 1 5;", 1, 14);
        Due.faulty(x, 2, "on 999 hang 1 in 6;", 2, 17);
        Due.faulty(x, 2, "on 999 light 6 0;", 2, 13);
        Due.faulty(x, 2, "on 999 light 5 10;", 2, 15);
        Due.faulty(x, 2, "on 999 light 5;", 1, 14);
        Due.faulty(x, 2, "on 999 hose 1 8;", 2, 14);
        Due.faulty(x, 2, "on 999 hose 1", 1, 13);
        Due.is("good", Due.tell(x, 2, "on 999 buy 1;on 0 sell 0;on 1 hang 1 in 5;on 2 light 5 9;on 2 light 2 0;on 3 hose 1 7;"), 6);
    }

    private static void vouchFaults() {
        DryPlaces x = new DryPlaces();
        x.place(1);
        x.place(2);
        Due.faulty(x, 3, "place 2 by 0;", 2, 6);
        Due.faulty(x, 3, "place 0 by 2;", 2, 11);
        Due.faulty(x, 3, "place 0 by 0;", 2, 11);
        Due.faulty(x, 3, "place 0 1;", 1, 8);
        Due.faulty(x, 3, "place by 1;", 1, 6);
        Due.faulty(x, 3, "place 0 by 1", 1, 12);
        Due.faulty(x, 3, "room 0 by 1;", 1, 0);
        Due.is("good", Due.tell(x, 3, "place 0 by 1;place 1 by 0;place 0 by 1;"), 3);
    }

    private static void tokens() {
        DryPlaces x = new DryPlaces();
        x.place(7);
        Due.faulty(x, 0, "worthy 1;", 1, 0);
        Due.faulty(x, 0, "Worth 1;", 1, 0);
        for (char letter : "azAZmM".toCharArray()) {
            Due.faulty(x, 0, "worth dry" + letter + ";", 1, 6);
        }
        for (char other : "`{@[_".toCharArray()) {
            Due.faulty(x, 0, "worth dry" + other + ";", 1, 9);
        }
        Due.faulty(x, 0, "(".repeat(400), 1, 0);
        Due.faulty(x, 0, "worth 1" + "+1".repeat(196), 1, 399);
        Due.is("a full tape", Due.tell(x, 0, "worth 1" + "+1".repeat(196) + ";"), 1);
        Due.is("its worth", x.of(0, 5), 197);
        Due.is("a full tape of parts", Due.tell(x, 0, "worth 5" + "/1".repeat(196) + ";"), 1);
        Due.is("its worth", x.of(0, 5), 5);
        Due.is("a full tape of blanks", Due.tell(x, 0, " ".repeat(400)), 0);
        Due.faulty(x, 0, "worth 1\t;", 1, 7);
        Due.faulty(x, 0, "worth 1\r\n;", 1, 7);
        Due.faulty(x, 0, "worth 1" + (char) 233 + ";", 1, 7);
        Due.faulty(x, 0, "worth 1" + (char) 0 + ";", 1, 7);
        Due.faulty(x, 0, "worth 1.5;", 1, 7);
        Due.faulty(x, 0, "worth 1 when 1<=2;", 1, 15);
        Due.faulty(x, 0, "worth 12345678901234567890;", 1, 6);
        Due.is("nothing between", Due.tell(x, 0, "worth2+year*3when 1=1and 2=2;"), 1);
        Due.is("worth", x.of(0, 5), 23);
        Due.is("much between", Due.tell(x, 0, "\n worth\n\n0002 \n+ year ;\n"), 1);
        Due.is("worth", x.of(0, 5), 9);
        Due.is("three digits and a word", Due.tell(x, 0, "worth 123when 9999>9998;"), 1);
        Due.is("worth", x.of(0, 5), 123);
    }

    private static void seventeenthLine() {
        DryPlaces x = new DryPlaces();
        x.place(0);
        x.place(0);
        String[] lines = {"comes 1;", "room 0 room 1 long 1;", "on 0 light 0 0;", "place 0 by 1;"};
        for (int k = 0; k < 4; k++) {
            Due.is("16 lines of " + k, Due.tell(x, k, lines[k].repeat(16)), 16);
            Due.is("look", x.look(7 + k), 16);
            Due.faulty(x, k, lines[k].repeat(16) + " " + lines[k], 3, 16 * lines[k].length() + 1);
            Due.faulty(x, k, lines[k].repeat(16) + "x", 1, 16 * lines[k].length());
            Due.is("it stays", x.look(7 + k), 16);
        }
    }

    private static void ninthOpen() {
        DryPlaces x = new DryPlaces();
        x.place(0);
        Due.is("eight", Due.tell(x, 0, "worth 1 when ((((((((1=1))))))));"), 1);
        Due.is("eight nots", Due.tell(x, 0, "worth 1 when not not not not not not not not 1=1;"), 1);
        Due.is("they close", Due.tell(x, 0, "worth 1 when not (not 1=1) and not (not (1=1)) or (((((((not 1=1)))))));"), 1);
        Due.faulty(x, 0, "worth 1 when not (not (not (not (not 1=1))));", 3, 33);
        Due.faulty(x, 0, "worth 1 when ((((((((1=1 or (2=2", 3, 28);
        Due.faulty(x, 0, "worth 1 when ((((((((1=1 (2=2", 1, 25);
        Due.faulty(x, 0, "worth 1 when ((((((((1=1) or ((1=1", 3, 30);
    }

    private static void otherwise() {
        DryPlaces x = new DryPlaces();
        Due.place(x, 99, "########", "########", "########", "########", "########", "########", "########", "########");
        Due.is("worth", x.of(0, 5), 5 * 64 + 99);
        Due.is("comes", x.of(0, 6), 8);
        Due.is("creeps in a corner", x.creeps(0, 63), 20);
        Due.tell(x, 0, "worth 1 when year<99; comes 1 when dry>64; creeps 1 when wet>2;");
        Due.is("worth of no line", x.of(0, 5), 5 * 64 + 99);
        Due.is("comes of no line", x.of(0, 6), 8);
        Due.is("creeps of no line", x.creeps(0, 63), 20);
        Due.tell(x, 0, "comes 5; worth 1 when year<99; worth 2 when year=99; worth 3;");
        Due.is("the first that is so", x.of(0, 5), 2);
        Due.tell(x, 0, "worth 4; worth 2 when year=99;");
        Due.is("the first has none", x.of(0, 5), 4);
    }

    private static void worth(DryPlaces x, String e, int due) {
        Due.is("told: " + e, Due.tell(x, 0, "worth " + e + ";"), 1);
        Due.is(e, x.of(0, 5), due);
    }

    private static void reckoning() {
        DryPlaces x = new DryPlaces();
        x.place(10);
        worth(x, "2+3*4", 14);
        worth(x, "20-3-4", 13);
        worth(x, "20-3+4", 21);
        worth(x, "20-3*4+1", 9);
        worth(x, "1+2*3-4*1+5/2*3", 9);
        worth(x, "7*3/2", 10);
        worth(x, "7/2*3", 9);
        worth(x, "100/7/2", 7);
        worth(x, "9999*9999/9999", 9999);
        worth(x, "30/1", 30);
        worth(x, "2*3*4*5/4/3", 10);
        // towards 0: the part of -7 by 2 is -3
        worth(x, "0-7", 0);
        worth(x, "20+0*7", 20);
        worth(x, "year*0-7*1+10", 3);
        DryPlaces y = new DryPlaces();
        y.place(0);
        Due.tell(y, 0, "worth 1 when dry-7=0-7 and 9999*9999*100*0=0;");
        Due.is("so", y.of(0, 5), 1);
        // 2^16 * 2^16 is 0, 2^16 * 2^15 the least int
        worth(x, "4096*16*4096*16+5", 5);
        worth(x, "4096*16*4096*8-1", 9999);
        worth(x, "4096*16*4096*8", 0);
        worth(x, "4096*16*4096*8/2", 0);
        worth(x, "4096*16*4096*8/9999*0+8", 8);
        worth(x, "9999", 9999);
        worth(x, "9999+1", 9999);
    }

    private static void so(String b, boolean due) {
        DryPlaces x = new DryPlaces();
        Due.place(x, 10, "###");
        Due.is("told: " + b, Due.tell(x, 0, "worth 1 when " + b + "; worth 2;"), 2);
        Due.is(b, x.of(0, 5), due ? 1 : 2);
    }

    private static void conditions() {
        so("1<2", true);
        so("2<2", false);
        so("2=2", true);
        so("2=3", false);
        so("3>2", true);
        so("2>2", false);
        so("1-5*1<0", true);
        so("1=1 or 1=2 and 1=3", true);
        so("1=2 and 1=3 or 1=1", true);
        so("(1=1 or 1=2) and 1=3", false);
        so("1=2 or 1=2 or 1=1 and 2=2", true);
        so("1=1 and 1=1 and 1=2", false);
        so("1=1 or 1=1 and 1=2 or 1=2", true);
        so("1=2 or 1=1 and 1=2 or 1=2", false);
        so("not 1=1", false);
        so("not 1=2", true);
        so("not not 1=1", true);
        so("not 1=1 or 1=1", true);
        so("not (1=1 or 1=1)", false);
        so("not 1=2 and 1=2", false);
        so("not (1=2 and 1=2)", true);
        so("not 1=2 and not 1=3", true);
        so("(1=1)", true);
        so("((1=2) or (3=3)) and (not (4=5))", true);
        so("dry=3 and year=10 and edges=8", true);
        // -7 by 2 is -3, not -4
        so("dry*0-7*1+0=0-7", true);
        so("0-7/2=0-3", true);
    }

    /** The condition that keeps most waiting in each bracket. */
    private static void deepest() {
        String begin = "1=2 or 1=1 and (".repeat(8);
        so(begin + "1=2 or 1=1 and 1+2*3=1+2*3" + ")".repeat(8), true);
        so(begin + "1=2 or 1=1 and 1+2*3=1+2*4" + ")".repeat(8), false);
        so(begin + "1=2 or 1=1 and 9-2*dry=0-1+4" + ")".repeat(8), true);
    }

    private static void held() {
        DryPlaces x = new DryPlaces();
        Due.place(x, 10, "###");
        Due.tell(x, 0, "creeps 1001; worth 9999*2; comes 100;");
        Due.is("creeps", x.creeps(0, 0), 1000);
        Due.is("worth", x.of(0, 5), 9999);
        Due.is("comes", x.of(0, 6), 99);
        Due.tell(x, 0, "creeps 0-1; worth 0-1; comes 0-1;");
        Due.is("creeps", x.creeps(0, 0), 0);
        Due.is("worth", x.of(0, 5), 0);
        Due.is("comes", x.of(0, 6), 0);
        Due.tell(x, 0, "creeps 1000; worth 9998; comes 99;");
        Due.is("creeps", x.creeps(0, 0), 1000);
        Due.is("worth", x.of(0, 5), 9998);
        Due.is("comes", x.of(0, 6), 99);
    }

    private static void known() {
        DryPlaces x = new DryPlaces();
        Due.place(x, 23, "###", "#.#", "###");
        String[] words = {"dry", "edges", "year", "light", "room", "hosed", "paid", "day", "wet"};
        expect(x, words, new int[] {8, 16, 23, 0, 0, 0, 0, 0, 0});
        Due.tell(x, 0, "worth 9; creeps 0; comes 0;");
        x.purse(9);
        x.act(0, 0, 0);
        x.act(2, 0, 5);
        x.act(3, 5, 7);
        x.days(4);
        x.act(4, 0, 2);
        expect(x, words, new int[] {5, 12, 23, 7, 6, 1, 9, 4, 0});
    }

    private static void expect(DryPlaces x, String[] words, int[] due) {
        for (int i = 0; i < words.length; i++) {
            Due.tell(x, 0, "worth " + words[i] + "; comes " + words[i] + ";");
            Due.is("worth " + words[i], x.of(0, 5), due[i]);
            Due.is("comes " + words[i], x.of(0, 6), due[i]);
        }
    }

    private static void creeps() {
        DryPlaces x = new DryPlaces();
        Due.place(x, 0, "########", "##.#####", "########", "....#...", "........", "........", "........", ".......#");
        int[][] wets = {{0, 2}, {1, 1}, {2, 2}, {7, 2}, {8, 1}, {9, 1}, {11, 1}, {12, 0}, {15, 1}, {16, 2}, {20, 0}, {28, 3}, {63, 4}};
        for (int[] wet : wets) {
            Due.is("creeps(0, " + wet[0] + ")", x.creeps(0, wet[0]), 10 * wet[1]);
        }
        Due.tell(x, 0, "creeps wet*100+dry+edges;");
        int other = x.shape(0, 0) + x.shape(0, 1);
        for (int[] wet : wets) {
            Due.is("creeps(0, " + wet[0] + ")", x.creeps(0, wet[0]), 100 * wet[1] + other);
        }
        Due.is("a wet one", x.creeps(0, 10), DryPlaces.NONE);
        Due.is("cell -1", x.creeps(0, -1), DryPlaces.NONE);
        Due.is("cell 64", x.creeps(0, 64), DryPlaces.NONE);
        Due.is("no place", x.creeps(1, 0), DryPlaces.NONE);
        Due.is("no place", x.creeps(-1, 0), DryPlaces.NONE);
    }

    private static void passages() {
        DryPlaces x = new DryPlaces();
        Due.is("passages", Due.tell(x, 1, "room 0 room 5 long 9; room 5 room 0 long 4; room 0 room 5 long 7; room 2 room 3 long 99;"), 4);
        Due.is("the shortest", x.room(0, 15), 4);
        Due.is("either way", x.room(5, 10), 4);
        Due.is("another", x.room(3, 12), 99);
        Due.is("none", x.room(3, 10), DryPlaces.NONE);
        Due.is("itself", x.room(3, 13), DryPlaces.NONE);
        for (int what : new int[] {-1, 1, 9, 16}) {
            Due.is("room(0, " + what + ")", x.room(0, what), -2);
        }
        Due.is("room(-1, 0)", x.room(-1, 0), -2);
        Due.is("room(6, 10)", x.room(6, 10), -2);
        Due.is("told anew", Due.tell(x, 1, "room 2 room 3 long 5;"), 1);
        Due.is("no more", x.room(0, 15), DryPlaces.NONE);
        Due.is("the new one", x.room(3, 12), 5);
    }
}
