/** Each sentence about THE TEXT that names a bound: the last that is good, the first that is not. */
public final class TextBoundsTest {
    private static final int BAD = -1, FULL = -3, NONE = -9;
    private static final int MOST = 150;
    private static final Check c = new Check("TextBoundsTest");

    public static void main(String[] args) {
        lettersAre0To255();
        atMost150Letters();
        anEmptyText();
        blanksAre32Alone();
        blanksBetweenTokens();
        tokensAreTheseAlone();
        itemsAreEndedBySemicolons();
        numbersAbove99();
        zeroAheadOfOthers();
        sortsAre0To3();
        weightsAre1To20();
        weightsAtFirst();
        holdsAre0To9();
        growsAre0To3();
        peopleAre4AtMost();
        personsToldAhead();
        piecesAre5AtMost();
        piecesAre1To60();
        toldAgainTheLater();
        endsTooEarly();
        firstTokenOfSeveral();
        tenLessFault();
        c.end();
    }

    private static void read(String text, int due) {
        UnsaidScales x = new UnsaidScales();
        c.same("shop of '" + text + "'", Shops.read(x, text), due);
        c.same("letters behind '" + text + "'", x.count(4), due < 0 ? text.length() : 0);
    }

    private static void fault(String text, int place) {
        read(text, -10 - place);
    }

    private static void lettersAre0To255() {
        c.part("a letter (0 .. 255) comes to THE TEXT: how many it has. BAD");
        UnsaidScales x = new UnsaidScales();
        for (int letter = 0; letter <= 255; letter++) {
            if (letter == 128) {
                c.same("half of them", x.clear(), 128);
            }
            c.same("letter " + letter, x.type(letter), letter % 128 + 1);
        }
        int[] wrong = {-1, 256, Integer.MIN_VALUE, Integer.MAX_VALUE, 's' + 256, 's' - 256, 's' + (1 << 16), -'s'};
        for (int letter : wrong) {
            c.same("letter " + letter, x.type(letter), BAD);
            c.same("letters", x.count(4), 128);
        }
    }

    private static void atMost150Letters() {
        c.part("a text (150 letters at most). FULL");
        UnsaidScales x = new UnsaidScales();
        Shops.typeAll(x, "b7;" + " ".repeat(MOST - 7) + "b8;");
        c.same("letters", x.count(4), MOST - 1);
        c.same("the last", x.type(' '), MOST);
        c.same("one more", x.type(';'), FULL);
        c.same("and one more", x.type(0), FULL);
        c.same("letters", x.count(4), MOST);
        c.same("refused ones are not read", x.shop(), 2);
        c.same("the first place", x.weight(4), 7);
        c.same("the last places", x.weight(5), 8);
        c.same("room behind shop()", x.type('b'), 1);
        x = new UnsaidScales();
        Shops.typeAll(x, "b7;".repeat(5) + " ".repeat(MOST - 20) + "s0 9;");
        c.same("letters", x.count(4), MOST);
        c.same("all 150 are read", x.shop(), 6);
        c.same("the last item", x.weight(0), 9);
        Shops.typeAll(x, "x".repeat(MOST));
        c.same("full again", x.type('x'), FULL);
        c.same("clear", x.clear(), MOST);
        c.same("room behind clear()", x.type('b'), 1);
        c.same("clear", x.clear(), 1);
    }

    private static void anEmptyText() {
        c.part("an empty text");
        UnsaidScales x = Shops.told("s0 9;p1 2 3 4;b5;");
        c.same("clear", x.clear(), 0);
        c.same("people stay behind clear()", x.count(0), 1);
        c.same("shop", x.shop(), 0);
        c.same("it tells of nobody", x.count(0), 0);
        c.same("of no brass", x.count(1), 0);
        c.same("of no weights", x.weight(0), 1);
        c.same("blanks alone", Shops.read(x, " ".repeat(MOST)), 0);
        c.same("letters", x.count(4), 0);
    }

    private static void blanksAre32Alone() {
        c.part("blanks (32)");
        for (int letter = 0; letter <= 255; letter++) {
            char sign = (char) letter;
            boolean good = sign == ' ' || sign >= '1' && sign <= '5';
            read("b" + sign + "7;", good ? 1 : -11);
        }
        fault("s0" + (char) 9 + "1;", 2);
        fault("s0" + (char) 160 + "1;", 2);
        fault("b7;" + (char) 10, 3);
        fault((char) 0 + "b7;", 0);
    }

    private static void blanksBetweenTokens() {
        c.part("blanks between TOKENS");
        read("s0 1;p1 2 3 4;g0 0 1;b1;", 4);
        read("s 0 1 ; p 1 2 3 4 ; g 0 0 1 ; b 1 ; ", 4);
        read("   s   0   1   ;   p   1   2   3   4   ;   g   0   0   1   ;   b   1   ;   ", 4);
        fault("s01;", 1);
        fault("s1 2 0;", 5);
        fault("s1 1 7;", 5);
        fault("p12 3 4;", 1);
        fault("p1 23 4;", 3);
        fault("p1234;", 1);
        fault("b1 0;", 3);
    }

    private static void tokensAreTheseAlone() {
        c.part("TOKENS are the letters s, p, g, b, NUMBERS and ;");
        for (int letter = 0; letter <= 255; letter++) {
            char sign = (char) letter;
            if (sign == ' ') {
                read("" + sign, 0);
            } else {
                fault("" + sign, "spgb".indexOf(sign) >= 0 ? 1 : 0);
            }
            if (sign == ' ') {
                read("b7" + sign + ";", 1);
            } else if (sign == ';') {
                fault("b7" + sign + ";", 3);
            } else {
                fault("b7" + sign + ";", sign >= '0' && sign <= '9' ? 1 : 2);
            }
        }
        fault("S0 1;", 0);
        fault("P0 0 0 0;", 0);
        fault("G0 0 0;", 0);
        fault("B1;", 0);
        fault("b-1;", 1);
        fault("b+1;", 1);
        fault("bb1;", 1);
        fault("sp0 0 0 0;", 1);
    }

    private static void itemsAreEndedBySemicolons() {
        c.part("ITEMS, each ended by ;");
        fault(";", 0);
        fault("b7;;", 3);
        fault("b7 b8;", 3);
        fault("s0 1 s1 1;", 5);
        fault("p0 0 0 0 p0 0 0 0;", 9);
        fault("p0 0 0 0;g0 0 0 b1;", 16);
        fault("s0 1 1;", 5);
        fault("p0 0 0 0 0;", 9);
        fault("p0 0 0 0;g0 0 0 0;", 16);
        fault("b7 7;", 3);
        fault("s0;", 2);
        fault("s;", 1);
        fault("p0 0 0;", 6);
        fault("p;", 1);
        fault("p0 0 0 0;g0 0;", 13);
        fault("p0 0 0 0;g0;", 11);
        fault("p0 0 0 0;g;", 10);
        fault("b;", 1);
    }

    private static void numbersAbove99() {
        c.part("a NUMBER above 99");
        String[] great = {"99", "100", "101", "109", "110", "120", "1000", "256", "257", "65537", "4294967297",
            "4294967298", "18446744073709551617", "1" + "0".repeat(120) + "1", "1".repeat(140)};
        for (String number : great) {
            fault("b" + number + ";", 1);
            fault("b" + number, 1);
            fault("b1;b" + number + ";", 4);
        }
        fault("s0 100;", 3);
        fault("s100 1;", 1);
        fault("p0 0 0 100;", 7);
        fault("p0 0 0 0;g256 0 0;", 10);
        fault("p0 0 0 0;g0 256 0;", 12);
        fault("p0 0 0 0;g0 0 256;", 14);
        fault("100", 0);
        fault("s0 1 100", 5);
    }

    private static void zeroAheadOfOthers() {
        c.part("a NUMBER with a 0 ahead of others");
        fault("b01;", 1);
        fault("b00;", 1);
        fault("b010;", 1);
        fault("b001;", 1);
        fault("b0000000001;", 1);
        fault("s00 1;", 1);
        fault("s0 09;", 3);
        fault("p00 0 0 0;", 1);
        fault("p0 0 0 00;", 7);
        fault("p0 0 0 0;g00 0 0;", 10);
        fault("p0 0 0 0;g0 03 0;", 12);
        fault("p0 0 0 0;g0 0 00;", 14);
        fault("p0 0 0 0;g0 0 03", 14);
        read("p0 0 0 0;g0 0 0;s0 10;b20;", 4);
    }

    private static void sortsAre0To3() {
        c.part("SORTS of things 0 .. 3");
        for (int s = 0; s <= 3; s++) {
            UnsaidScales x = Shops.told("p0 0 0 0;s" + s + " 13;g0 " + s + " 2;");
            for (int other = 0; other <= 3; other++) {
                c.same("weight", x.weight(other), other == s ? 13 : (other + 1) * (other + 1));
                c.same("grows", x.grows(0, other), other == s ? 2 : 0);
            }
        }
        fault("s4 1;", 1);
        fault("s9 1;", 1);
        fault("s10 1;", 1);
        fault("p0 0 0 0;g0 4 0;", 12);
        fault("p0 0 0 0;g0 10 0;", 12);
    }

    private static void weightsAre1To20() {
        c.part("WEIGHT (1 .. 20)");
        for (int s = 0; s <= 3; s++) {
            for (int weight = 1; weight <= 20; weight++) {
                c.same("weight", Shops.told("s" + s + " " + weight + ";").weight(s), weight);
            }
            fault("s" + s + " 0;", 3);
            fault("s" + s + " 21;", 3);
            fault("s" + s + " 99;", 3);
        }
    }

    private static void weightsAtFirst() {
        c.part("1, 4, 9, 16 at first");
        UnsaidScales x = Shops.told("s0 20;s1 19;s2 18;s3 17;");
        c.same("weight 0", x.weight(0), 20);
        c.same("weight 1", x.weight(1), 19);
        c.same("weight 2", x.weight(2), 18);
        c.same("weight 3", x.weight(3), 17);
        c.same("all anew", Shops.read(x, "s1 5;"), 1);
        c.same("weight 0", x.weight(0), 1);
        c.same("weight 1", x.weight(1), 5);
        c.same("weight 2", x.weight(2), 9);
        c.same("weight 3", x.weight(3), 16);
    }

    private static void holdsAre0To9() {
        c.part("HOLDS (0 .. 9 of each SORT)");
        int[] places = {1, 3, 5, 7};
        for (int s = 0; s <= 3; s++) {
            for (int number = 0; number <= 9; number++) {
                String[] held = {"0", "0", "0", "0"};
                held[s] = "" + number;
                UnsaidScales x = Shops.told("p" + String.join(" ", held) + ";");
                for (int other = 0; other <= 3; other++) {
                    c.same("holds", x.holds(0, other), other == s ? number : 0);
                }
            }
            String[] held = {"0", "0", "0", "0"};
            held[s] = "10";
            fault("p" + String.join(" ", held) + ";", places[s]);
        }
    }

    private static void growsAre0To3() {
        c.part("GROWS (0 .. 3 of each SORT a day; 0 at first)");
        String four = "p0 0 0 0;".repeat(4);
        for (int p = 0; p <= 3; p++) {
            for (int s = 0; s <= 3; s++) {
                for (int number = 0; number <= 3; number++) {
                    UnsaidScales x = Shops.told(four + "g" + p + " " + s + " " + number + ";");
                    c.same("grows", x.grows(p, s), number);
                    c.same("another one at first", x.grows((p + 1) % 4, s), 0);
                    c.same("another sort at first", x.grows(p, (s + 1) % 4), 0);
                }
                fault(four + "g" + p + " " + s + " 4;", 41);
                fault(four + "g" + p + " " + s + " 10;", 41);
            }
        }
    }

    private static void peopleAre4AtMost() {
        c.part("PEOPLE (4 at most); a fifth p");
        String text = "";
        for (int n = 0; n <= 4; n++) {
            c.same("people", Shops.told(text).count(0), n);
            text = text + "p" + n + " 0 0 9;";
        }
        UnsaidScales x = Shops.told(text.substring(0, 36));
        for (int p = 0; p <= 3; p++) {
            c.same("holds", Shops.allHeld(x, p), p * 1000 + 9);
        }
        fault(text, 36);
        fault(text.substring(0, 36) + "p", 36);
        fault(text.substring(0, 36) + "  p", 38);
        fault(text.substring(0, 36) + "p;", 36);
        fault(text.substring(0, 36) + "p10 x", 36);
        read(text.substring(0, 36) + "b1;s0 1;g3 0 0;", 7);
    }

    private static void personsToldAhead() {
        c.part("a PERSON told ahead; a PERSON that there is not");
        String text = "";
        for (int n = 0; n <= 4; n++) {
            if (n > 0) {
                read(text + "g" + (n - 1) + " 0 3;", n + 1);
                read(text + "g0 0 3;", n + 1);
            }
            fault(text + "g" + n + " 0 3;", text.length() + 1);
            fault(text + "g9 0 3;", text.length() + 1);
            fault(text + "g10 0 3;", text.length() + 1);
            text = text + "p0 0 0 0;";
        }
        fault("g0 0 3;p0 0 0 0;", 1);
        fault("p0 0 0 0;g1 0 3;p0 0 0 0;", 10);
        read("p0 0 0 0;g0 0 3;p0 0 0 0;g1 0 3;", 4);
        fault("g;", 1);
        fault("g", 1);
    }

    private static void piecesAre5AtMost() {
        c.part("BRASS: 0 .. 5 pieces; a sixth b");
        String text = "";
        for (int n = 0; n <= 5; n++) {
            UnsaidScales x = Shops.told(text);
            c.same("pieces", x.count(1), n);
            for (int i = 0; i < 5; i++) {
                c.same("piece", x.weight(4 + i), i < n ? i + 1 : NONE);
            }
            text = text + "b" + (n + 1) + ";";
        }
        fault(text, 15);
        fault(text.substring(0, 15) + "b", 15);
        fault(text.substring(0, 15) + " b61", 16);
        read(text.substring(0, 15) + "s0 1;p0 0 0 0;", 7);
    }

    private static void piecesAre1To60() {
        c.part("BRASS (1 .. 60 each)");
        for (int weight = 1; weight <= 60; weight++) {
            c.same("piece", Shops.told("b" + weight + ";").weight(4), weight);
        }
        fault("b0;", 1);
        fault("b61;", 1);
        fault("b99;", 1);
        fault("b1;b0;", 4);
        fault("b60;b60;b60;b60;b61;", 17);
    }

    private static void toldAgainTheLater() {
        c.part("told again: the later");
        UnsaidScales x = Shops.told("s2 20;s2 1;p0 0 0 0;g0 3 1;g0 3 3;g0 0 3;g0 0 0;s2 2;");
        c.same("weight", x.weight(2), 2);
        c.same("grows", x.grows(0, 3), 3);
        c.same("grows none", x.grows(0, 0), 0);
        c.same("each is an item", Shops.read(x, "s2 20;s2 1;p0 0 0 0;g0 3 1;g0 3 3;"), 5);
        c.same("alike people are others", Shops.read(x, "p1 1 1 1;p1 1 1 1;"), 2);
        c.same("people", x.count(0), 2);
        c.same("alike pieces are others", Shops.read(x, "b5;b5;"), 2);
        c.same("pieces", x.count(1), 2);
        fault("s2 20;s2 21;", 9);
        fault("p0 0 0 0;g0 0 3;g0 0 4;", 21);
    }

    private static void endsTooEarly() {
        c.part("the text's length, if it ends too early");
        String text = "s0 1;p1 2 3 4;g0 0 1;b1;";
        for (int length = 0; length <= text.length(); length++) {
            String part = text.substring(0, length);
            int items = (int) part.chars().filter(letter -> letter == ';').count();
            boolean whole = part.isEmpty() || part.endsWith(";");
            read(part, whole ? items : -10 - length);
            read(part + " ", whole ? items : -10 - length - 1);
            read(part + "   ", whole ? items : -10 - length - 3);
        }
        fault("s0 20", 5);
        fault("b60", 3);
        fault("b" + " ".repeat(MOST - 1), MOST);
        fault(" ".repeat(MOST - 2) + "b1", MOST);
    }

    private static void firstTokenOfSeveral() {
        c.part("the first TOKEN that can't stand there");
        fault("s4 21;", 1);
        fault("s3 21;x", 3);
        fault("b1;s4 1;x", 4);
        fault("b1;x;s4 1;", 3);
        fault("s4 x", 1);
        fault("s x4", 2);
        fault("p10 10 10 10;", 1);
        fault("p9 10 10 10;", 3);
        fault("p9 9 10 10;", 5);
        fault("p9 9 9 10;", 7);
        fault("p9 9 9 9 9", 9);
        fault("g4 4 4;", 1);
        fault("p0 0 0 0;g0 4 4;", 12);
        fault("b61 61", 1);
        fault("b60 100", 4);
        fault("b1;b1;b1;b1;b1;b61;100", 15);
    }

    private static void tenLessFault() {
        c.part("-10 less FAULT");
        read("x", -10);
        read("bx", -11);
        read(" ".repeat(MOST - 1) + "x", -159);
        read(" ".repeat(MOST - 1) + "s", -160);
        UnsaidScales x = new UnsaidScales();
        Shops.typeAll(x, "b1;x");
        c.same("a fault", x.shop(), -13);
        c.same("again, as the text stays", x.shop(), -13);
        c.same("one letter more", x.type(';'), 5);
        c.same("the fault stays", x.shop(), -13);
        c.same("clear", x.clear(), 5);
        c.same("nothing is left of it", x.shop(), 0);
        Shops.typeAll(x, "b1;b");
        c.same("too early", x.shop(), -14);
        Shops.typeAll(x, "2;");
        c.same("it goes on from there", x.shop(), 2);
        c.same("the second piece", x.weight(5), 2);
    }
}
