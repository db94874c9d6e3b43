/** What Terms 2 says of bounds and faults of texts, and of what THE LAW tells: at each bound and one beyond it on either side. */
public final class BoundsOfTextsTest {
    private static final int NONE = DryPlaces.NONE;

    public static void main(String[] args) {
        sixteenLines();
        digits();
        words();
        firstWords();
        blanks();
        roomsOfPassages();
        lengths();
        severalPassages();
        daysOfTheDiary();
        placesOfTheDiary();
        roomsLightsAndRowsOfTheDiary();
        placesOfVouches();
        placesAsTheyAre();
        partsByNothing();
        ends();
        firstByItsPlace();
        leastAtOnePlace();
        ninthOpen();
        openAndClosed();
        Due.close();
    }

    private static void sixteenLines() {
        Due.says("Terms 2: 16 lines of each at most; 3 (at its KEYWORD) the 17th line of a text");
        String[] lines = {"comes 1;", "room 0 room 1 long 1;", "on 0 light 0 0;", "place 0 by 1;"};
        DryPlaces x = Due.wetPlaces(2);
        for (int k = 0; k < 4; k++) {
            int length = lines[k].length();
            Due.good(x, k, "", 0);
            Due.is("none", x.look(7 + k), 0);
            Due.good(x, k, lines[k].repeat(15), 15);
            Due.good(x, k, lines[k].repeat(16), 16);
            Due.good(x, k, lines[k].repeat(16) + " \n", 16);
            Due.faulty(x, k, lines[k].repeat(17), 3, 16 * length);
            Due.faulty(x, k, lines[k].repeat(16) + "\n  " + lines[k], 3, 16 * length + 3);
            Due.faulty(x, k, lines[k].repeat(16) + lines[k].substring(0, lines[k].indexOf(' ')), 3, 16 * length);
            Due.is("it stays", x.look(7 + k), 16);
        }
        Due.faulty(x, 0, "comes 1;".repeat(16) + "worth 1;", 3, 128);
        Due.faulty(x, 0, "comes 1;".repeat(16) + "creeps 1;", 3, 128);
        Due.good(x, 0, "creeps 1;worth 2;comes 3;".repeat(5) + "worth 9;", 16);
    }

    private static void digits() {
        Due.says("Terms 2: digits as many as stand together NUMBERS of 1 to 4 digits or none");
        DryPlaces x = Due.wetPlaces(1);
        String[] numbers = {"0", "9", "10", "99", "100", "999", "1000", "9999", "0000", "0001", "007"};
        for (String number : numbers) {
            Due.good(x, 0, "worth " + number + ";", 1);
            Due.is("worth " + number, x.of(0, 5), Integer.parseInt(number));
        }
        for (String number : new String[] {"10000", "00000", "00001", "99999", "4294967296", "0".repeat(300)}) {
            Due.faulty(x, 0, "worth " + number + ";", 1, 6);
            Due.faulty(x, 0, "worth 1/" + number + ";", 1, 8);
            Due.faulty(x, 1, "room " + number, 1, 5);
            Due.faulty(x, 2, "on " + number + " buy 0;", 1, 3);
        }
        Due.faulty(x, 0, "worth 1000 0;", 1, 11);
    }

    private static void words() {
        Due.says("Terms 2: letters as many as stand together are KEYWORDS (those told here for that text) or none");
        DryPlaces x = Due.wetPlaces(2);
        Due.faulty(x, 0, "wort 1;", 1, 0);
        Due.faulty(x, 0, "worths 1;", 1, 0);
        Due.faulty(x, 0, "worthdry;", 1, 0);
        Due.faulty(x, 0, "worth dr;", 1, 6);
        Due.faulty(x, 0, "worth dryy;", 1, 6);
        Due.faulty(x, 0, "worth dry whe 1=1;", 1, 10);
        Due.faulty(x, 0, "worth dry when notdry=1;", 1, 15);
        Due.faulty(x, 0, "WORTH 1;", 1, 0);
        for (String word : "long on buy sell hang in hose place by".split(" ")) {
            Due.faulty(x, 0, word + " 1;", 1, 0);
            Due.faulty(x, 0, "worth " + word + ";", 1, 6);
        }
        for (String word : "creeps worth comes when or and not".split(" ")) {
            Due.faulty(x, 0, "worth " + word + ";", 1, 6);
        }
        for (String word : "dry edges year light room hosed paid day wet".split(" ")) {
            Due.faulty(x, 0, word + " 1;", 1, 0);
            Due.good(x, 0, "worth " + word + ";", 1);
        }
        for (String word : "creeps on place by long light dry".split(" ")) {
            Due.faulty(x, 1, word + " 0", 1, 0);
        }
        for (String word : "creeps room in place by buy light wipe".split(" ")) {
            Due.faulty(x, 2, word + " 0", 1, 0);
        }
        for (String word : "creeps room on by buy long".split(" ")) {
            Due.faulty(x, 3, word + " 0", 1, 0);
        }
        for (String word : "wipe room in on place worth".split(" ")) {
            Due.faulty(x, 2, "on 1 " + word + " 0;", 1, 5);
        }
        Due.good(x, 2, "on0buy0;on1sell1;on2hang1in2;on3light4 5;on4hose1 2;", 5);
        Due.good(x, 3, "place0by1;", 1);
    }

    private static void firstWords() {
        Due.says("Terms 2: what a line of each TEXT begins with");
        DryPlaces x = Due.wetPlaces(2);
        String[] firsts = {" creeps worth comes ", " room ", " on ", " place "};
        String all = "creeps worth comes when or and not dry edges year light room hosed paid day wet long on buy sell hang in hose place by";
        for (int k = 0; k < 4; k++) {
            for (String word : (all + " wipe 0 ; + - * / ( ) < = >").split(" ")) {
                boolean isFirst = firsts[k].contains(" " + word + " ");
                Due.faulty(x, k, word + " 1", 1, isFirst ? word.length() + 2 : 0);
            }
        }
    }

    private static void blanks() {
        Due.says("Terms 2: Blanks (32, 10) between.");
        DryPlaces x = Due.wetPlaces(1);
        for (int sign = 0; sign < 256; sign++) {
            boolean isBlank = sign == 32 || sign == 10;
            if (isBlank) {
                Due.good(x, 0, (char) sign + "worth" + (char) sign + "12" + (char) sign + ";" + (char) sign, 1);
            } else if (sign < '0' || sign > '9') {
                boolean isSign = "+-*/;".indexOf(sign) >= 0;
                Due.is("worth 12 and sign " + sign, Due.tell(x, 0, "worth 12" + (char) sign), sign == ';' ? 1 : NONE);
                Due.is("its place", x.fault(1), sign == ';' ? NONE : isSign ? 9 : 8);
                Due.is("its fault", x.fault(0), sign == ';' ? 0 : 1);
            }
        }
        Due.faulty(x, 0, "wor th 1;", 1, 0);
        Due.faulty(x, 0, "worth 1\n2;", 1, 8);
    }

    private static void roomsOfPassages() {
        Due.says("Terms 2: PASSAGES = {room ROOM room ROOM long N ;} (either way; unlike; ..)");
        DryPlaces x = new DryPlaces();
        for (int a = 0; a < 8; a++) {
            for (int b = 0; b < 8; b++) {
                String text = "room " + a + " room " + b + " long 7;";
                if (a > 5) {
                    Due.faulty(x, 1, text, 2, 5);
                } else if (b > 5 || a == b) {
                    Due.faulty(x, 1, text, 2, 12);
                } else {
                    Due.good(x, 1, text, 1);
                    Due.is("there", x.room(a, 10 + b), 7);
                    Due.is("back", x.room(b, 10 + a), 7);
                }
            }
        }
        Due.faulty(x, 1, "room 5 room 0005 long 7;", 2, 12);
        Due.faulty(x, 1, "room 9999 room 0 long 7;", 2, 5);
    }

    private static void lengths() {
        Due.says("Terms 2: N 1 .. 99");
        DryPlaces x = new DryPlaces();
        for (int length : new int[] {1, 2, 98, 99}) {
            Due.good(x, 1, "room 3 room 4 long " + length + ";", 1);
            Due.is("long", x.room(4, 13), length);
        }
        for (String length : new String[] {"0", "00", "100", "0100", "9999"}) {
            Due.faulty(x, 1, "room 3 room 4 long " + length + ";", 2, 19);
        }
        Due.good(x, 1, "room 3 room 4 long 0099;", 1);
        Due.faulty(x, 1, "room 3 room 4 long -1;", 1, 19);
    }

    private static void severalPassages() {
        Due.says("Terms 2: of several between two the shortest.");
        DryPlaces x = new DryPlaces();
        String[] orders = {"345", "543", "354", "435", "453", "534"};
        for (String order : orders) {
            StringBuilder text = new StringBuilder();
            for (int i = 0; i < 3; i++) {
                text.append(i == 1 ? "room 2 room 0 long " : "room 0 room 2 long ").append(order.charAt(i)).append(';');
            }
            Due.good(x, 1, text.toString(), 3);
            Due.is("there", x.room(0, 12), 3);
            Due.is("back", x.room(2, 10), 3);
            Due.is("lines", x.look(8), 3);
        }
    }

    private static void daysOfTheDiary() {
        Due.says("Terms 2: DAY 0 .. 999");
        DryPlaces x = Due.wetPlaces(1);
        for (String day : new String[] {"0", "0000", "1", "998", "999", "0999"}) {
            Due.good(x, 2, "on " + day + " buy 0;", 1);
        }
        for (String day : new String[] {"1000", "1001", "9999"}) {
            Due.faulty(x, 2, "on " + day + " buy 0;", 2, 3);
        }
    }

    private static void placesOfTheDiary() {
        Due.says("Terms 2: 2 (at the NUMBER) .. a PLACE that there is not (DIARY)");
        String[] heads = {"on 7 buy ", "on 7 sell ", "on 7 hang ", "on 7 hose "};
        String[] tails = {";", ";", " in 0;", " 0;"};
        for (int count = 0; count <= 10; count++) {
            DryPlaces x = Due.wetPlaces(count);
            for (int i = 0; i < heads.length; i++) {
                if (count > 0) {
                    Due.good(x, 2, heads[i] + "0" + tails[i], 1);
                    Due.good(x, 2, heads[i] + (count - 1) + tails[i], 1);
                }
                Due.faulty(x, 2, heads[i] + count + tails[i], 2, heads[i].length());
                Due.faulty(x, 2, heads[i] + "9999" + tails[i], 2, heads[i].length());
            }
        }
    }

    private static void roomsLightsAndRowsOfTheDiary() {
        Due.says("Terms 2: N 0 .. 9; ROW 0 .. 7; ROOM 0 .. 5");
        DryPlaces x = Due.wetPlaces(1);
        bounded(x, "on 7 light 5 ", 9);
        bounded(x, "on 7 hose 0 ", 7);
        bounded(x, "on 7 hang 0 in ", 5);
        for (int room = 0; room <= 7; room++) {
            if (room <= 5) {
                Due.good(x, 2, "on 7 light " + room + " 1;", 1);
            } else {
                Due.faulty(x, 2, "on 7 light " + room + " 1;", 2, 11);
            }
        }
        Due.faulty(x, 2, "on 7 hang 0;", 1, 11);
        Due.faulty(x, 2, "on 7 hang 0 in;", 1, 14);
        Due.faulty(x, 2, "on 7 hose 0;", 1, 11);
        Due.faulty(x, 2, "on 7 light 0;", 1, 12);
        Due.faulty(x, 2, "on 7 buy;", 1, 8);
        Due.faulty(x, 2, "on 7 sell;", 1, 9);
        // not as in passages, the same place and room may be told again
        Due.good(x, 2, "on 7 hang 0 in 0; on 7 hang 0 in 0; on 7 light 0 0;", 3);
    }

    /** A diary's line with a last number of 0 .. most. */
    private static void bounded(DryPlaces x, String head, int most) {
        for (int v : new int[] {0, 1, most - 1, most}) {
            Due.good(x, 2, head + v + ";", 1);
        }
        for (int v : new int[] {most + 1, most + 2, 100, 9999}) {
            Due.faulty(x, 2, head + v + ";", 2, head.length());
        }
    }

    private static void placesOfVouches() {
        Due.says("Terms 2: VOUCHES = {place PLACE by PLACE ;} (one way; unlike.)");
        for (int count : new int[] {0, 1, 2, 9, 10}) {
            DryPlaces x = Due.wetPlaces(count);
            for (int p = 0; p <= count; p++) {
                for (int by : new int[] {0, p, count - 1, count}) {
                    if (by < 0) {
                        continue;
                    }
                    String text = "place " + p + " by " + by + ";";
                    if (p == count) {
                        Due.faulty(x, 3, text, 2, 6);
                    } else if (by == count || by == p) {
                        Due.faulty(x, 3, text, 2, text.length() - 1 - String.valueOf(by).length());
                    } else {
                        Due.good(x, 3, text, 1);
                        Due.is("vouched", x.vouched(p), 1 << by);
                        Due.is("one way", x.vouched(by), 0);
                    }
                }
            }
        }
    }

    private static void placesAsTheyAre() {
        Due.says("Terms 2: a PLACE that there is not (as it is told)");
        DryPlaces x = Due.wetPlaces(1);
        Due.faulty(x, 3, "place 0 by 1;", 2, 11);
        x.image(true);
        x.place(0);
        Due.good(x, 3, "place 0 by 1;", 1);
        x.image(false);
        Due.faulty(x, 3, "place 0 by 1;", 2, 11);
        Due.is("the text as it was", x.look(10), 0);
    }

    private static void partsByNothing() {
        Due.says("Terms 2: 2 (at the NUMBER) a part by 0");
        DryPlaces x = Due.wetPlaces(1);
        for (String zero : new String[] {"0", "00", "000", "0000"}) {
            Due.faulty(x, 0, "worth 8/" + zero + ";", 2, 8);
            Due.faulty(x, 0, "worth 8*2/ " + zero + ";", 2, 11);
            Due.faulty(x, 0, "worth 8 when 1/" + zero + "=1;", 2, 15);
            Due.faulty(x, 0, "worth 8 when 1=1/" + zero + ";", 2, 17);
        }
        Due.faulty(x, 0, "worth 8/1/0;", 2, 10);
        Due.faulty(x, 0, "worth 8/dry;", 1, 8);
        Due.faulty(x, 0, "worth 8/(1);", 1, 8);
        Due.good(x, 0, "worth 8/1;", 1);
        Due.is("by 1", x.of(0, 5), 8);
        Due.good(x, 0, "worth 9999*2/9999;", 1);
        Due.is("by 9999", x.of(0, 5), 2);
        Due.good(x, 0, "worth 0/1+8*0;", 1);
        Due.is("0 by 1, and times 0", x.of(0, 5), 0);
    }

    /** Every beginning of a good text that is not one itself ends too early: at its length, blanks too. */
    private static void ends() {
        Due.says("Terms 2: 1 what can't stand there (the end: the text's length)");
        String[] texts = {"worth 1+dry*2/3 when not (1<2 or 3=3) and 5>4;", "room 0 room 1 long 22;", "on 9 hang 0 in 5;", "place 0 by 1;"};
        DryPlaces x = Due.wetPlaces(2);
        for (int k = 0; k < 4; k++) {
            for (int length = 1; length < texts[k].length(); length++) {
                boolean cutsAWord = Character.isLetter(texts[k].charAt(length)) && Character.isLetter(texts[k].charAt(length - 1));
                if (!cutsAWord) {
                    Due.faulty(x, k, texts[k].substring(0, length), 1, length);
                    Due.faulty(x, k, texts[k].substring(0, length) + " ", 1, length + 1);
                }
            }
            Due.good(x, k, texts[k], 1);
        }
    }

    private static void firstByItsPlace() {
        Due.says("Terms 2: FAULTS, the first by its place");
        DryPlaces x = Due.wetPlaces(2);
        Due.faulty(x, 0, "worth 1/0 1/0; x", 2, 8);
        Due.faulty(x, 0, "worth x/0;", 1, 6);
        Due.faulty(x, 0, "worth 12345/0;", 1, 6);
        Due.faulty(x, 1, "room 6 room 6 long 0", 2, 5);
        Due.faulty(x, 1, "room 1 room 1 long 0", 2, 12);
        Due.faulty(x, 1, "room 1 room 2 long 0", 2, 19);
        Due.faulty(x, 1, "room 1 long 0", 1, 7);
        Due.faulty(x, 2, "on 1000 buy 9", 2, 3);
        Due.faulty(x, 2, "on 999 buy 9", 2, 11);
        Due.faulty(x, 2, "on 999 light 6 10", 2, 13);
        Due.faulty(x, 2, "on 999 hose 2 8", 2, 12);
        Due.faulty(x, 2, "on 999 hang 2 at 8", 2, 12);
        Due.faulty(x, 3, "place 2 by 2;", 2, 6);
        Due.faulty(x, 3, "place 0 by 1; place 1 by 1; x", 2, 25);
        Due.faulty(x, 3, "place 0 by 1 x; place 1 by 1;", 1, 13);
    }

    private static void leastAtOnePlace() {
        Due.says("Terms 2: at one place the least");
        DryPlaces x = Due.wetPlaces(2);
        Due.faulty(x, 0, "comes 1;".repeat(16) + ";", 1, 128);
        Due.faulty(x, 0, "comes 1;".repeat(16) + "dry", 1, 128);
        Due.faulty(x, 0, "comes 1;".repeat(16) + "worthy", 1, 128);
        Due.faulty(x, 0, "worth 1 when ((((((((1(", 1, 22);
        Due.faulty(x, 0, "worth 1 when ((((((((1=1 not", 1, 25);
        Due.faulty(x, 0, "worth 1 when ((((((((1=(", 1, 23);
        Due.faulty(x, 0, "worth 1 when ((((((((1=not", 1, 23);
        Due.faulty(x, 0, "worth (((((((((", 1, 6);
        Due.faulty(x, 0, "worth 1/00000;", 1, 8);
    }

    private static void ninthOpen() {
        Due.says("Terms 2: 3 (at it) the 9th ( or not that is open.");
        DryPlaces x = Due.wetPlaces(1);
        // all ways in which eight of them can stand, by bits: 1 is a (
        for (int bits = 0; bits < 256; bits++) {
            StringBuilder head = new StringBuilder("worth 5 when ");
            StringBuilder tail = new StringBuilder("1=1");
            int nots = 0;
            for (int i = 0; i < 8; i++) {
                boolean isBracket = (bits >> i & 1) != 0;
                head.append(isBracket ? "(" : "not ");
                tail.append(isBracket ? ")" : "");
                nots += isBracket ? 0 : 1;
            }
            Due.good(x, 0, head.toString() + tail + ";", 1);
            Due.is("worth", x.of(0, 5), nots % 2 == 0 ? 5 : 0);
            Due.faulty(x, 0, head + "(" + tail + ");", 3, head.length());
            Due.faulty(x, 0, head + "not " + tail + ";", 3, head.length());
        }
    }

    private static void openAndClosed() {
        Due.says("Terms 2: the 9th ( or not that is open");
        DryPlaces x = Due.wetPlaces(1);
        String eight = "((((((((1=1))))))))";
        String nots = "not not not not not not not not 1=1";
        Due.good(x, 0, "worth 1 when " + eight + " and " + eight + " or " + nots + " and " + nots + ";", 1);
        Due.good(x, 0, "worth 1 when " + eight + "; worth 2 when " + nots + "; worth 3 when " + eight + ";", 3);
        Due.good(x, 0, "worth 1 when (((((((not 1=1 and not 2=2 or not 3=3)))))));", 1);
        Due.good(x, 0, "worth 1 when (((((((not 1=1) and (not 2=2 or (1=1))))))));", 1);
        Due.faulty(x, 0, "worth 1 when (((((((not 1=1 and (not 2=2 or 3=3))))))));", 3, 33);
        Due.faulty(x, 0, "worth 1 when (((((((not (1=1))))))));", 3, 24);
        Due.faulty(x, 0, "worth 1 when " + eight + " and (" + eight + ");", 3, 13 + eight.length() + 6 + 7);
    }
}
