/** Promise by promise: ordinary inputs, the edges that the document names, wrong inputs. */
public final class PromisesTest {
    private static final int BAD = -1, STATE = -2, FULL = -3, NONE = -9, NO = -1000000;
    private static final Check c = new Check("PromisesTest");

    public static void main(String[] args) {
        promise1NewObject();
        promise2Type();
        promise3Clear();
        promise4Shop();
        promise4Faults();
        promise4Anew();
        promise5Holds();
        promise6Grows();
        promise7Weight();
        promise8Heavy();
        promise9Known();
        promise10Now();
        promise10Orders();
        promise10Next();
        promise11Tells();
        promise12Keeps();
        promise13Day();
        promise14Weighs();
        promise15Forgets();
        promise16Undo();
        promise17Beam();
        promise18Level();
        promise19When();
        promise20Odds();
        promise21Brass();
        promise22Shows();
        promise23Can();
        promise24Saw();
        promise25Laws();
        promise26Clean();
        promise27Rate();
        promise28Keep();
        promise29Back();
        promise30Count();
        promise31Trace();
        c.end();
    }

    private static void promise1NewObject() {
        c.part("1 a new object");
        UnsaidScales x = new UnsaidScales();
        c.same("people", x.count(0), 0);
        c.same("pieces", x.count(1), 0);
        c.same("shown", x.count(2), 0);
        c.same("seen", x.count(3), 0);
        c.same("letters", x.count(4), 0);
        c.same("weight 0", x.weight(0), 1);
        c.same("weight 1", x.weight(1), 4);
        c.same("weight 2", x.weight(2), 9);
        c.same("weight 3", x.weight(3), 16);
        c.same("first piece", x.weight(4), NONE);
        c.same("heavy", x.heavy(0), BAD);
        c.same("day", x.now(0), 0);
        c.same("pairs", x.now(1), 0);
        c.same("orders", x.now(2), 1);
        c.same("worst", x.now(3), 0);
        c.same("next", x.now(4), NONE);
        c.same("range", x.now(5), 0);
        c.same("undone", x.now(6), 0);
        c.same("undo", x.undo(), STATE);
        c.same("back", x.back(0), STATE);
        c.same("trace", x.trace(), 0);
        c.same("can", x.can(0, 0), BAD);
        c.same("brass of 0", x.brass(0, 0), 0);
        c.same("brass of 1", x.brass(1, 0), NONE);
        c.same("day goes by", x.day(), 1);
    }

    private static void promise2Type() {
        c.part("2 type");
        UnsaidScales x = new UnsaidScales();
        c.same("0", x.type(0), 1);
        c.same("255", x.type(255), 2);
        c.same("-1", x.type(-1), BAD);
        c.same("256", x.type(256), BAD);
        c.same("least int", x.type(Integer.MIN_VALUE), BAD);
        c.same("refused letters", x.count(4), 2);
        for (int i = 3; i <= 150; i++) {
            c.same("letter", x.type('s'), i);
        }
        c.same("letter 151", x.type('s'), FULL);
        c.same("BAD ahead of FULL", x.type(256), BAD);
        c.same("letters", x.count(4), 150);
    }

    private static void promise3Clear() {
        c.part("3 clear");
        UnsaidScales x = Shops.told("p1 0 0 0;b3;");
        c.same("nothing", x.clear(), 0);
        Shops.typeAll(x, "p1");
        c.same("two", x.clear(), 2);
        c.same("again", x.clear(), 0);
        c.same("letters", x.count(4), 0);
        c.same("people stay", x.count(0), 1);
        c.same("brass stays", x.weight(4), 3);
        c.same("type behind it", x.type('p'), 1);
    }

    private static void promise4Shop() {
        c.part("4 shop");
        UnsaidScales x = new UnsaidScales();
        c.same("empty text", x.shop(), 0);
        c.same("blanks alone", Shops.read(x, "   "), 0);
        c.same("letters behind", x.count(4), 0);
        c.same("all kinds", Shops.read(x, "s3 20;p1 2 3 4;g0 2 3;b60;"), 4);
        c.same("letters behind", x.count(4), 0);
        c.same("weight", x.weight(3), 20);
        c.same("held", Shops.allHeld(x, 0), 1234);
        c.same("grown", x.grows(0, 2), 3);
        c.same("brass", x.weight(4), 60);
        c.same("blanks all over", Shops.read(x, "  s  3   7 ;  p 9 8 7 6  ;g 0 0 1 ; b 10 ;  "), 4);
        c.same("weight", x.weight(3), 7);
        c.same("held", Shops.allHeld(x, 0), 9876);
        c.same("told again: the later", Shops.read(x, "s0 5;p0 0 0 0;g0 1 3;s0 6;g0 1 2;g0 1 0;"), 6);
        c.same("weight", x.weight(0), 6);
        c.same("grown", x.grows(0, 1), 0);
        c.same("least and greatest", Shops.read(x, "s0 1;s1 20;p9 9 9 9;p0 0 0 0;p1 1 1 1;p2 2 2 2;"
            + "g3 3 3;g0 0 0;b1;b60;b2;b3;b4;"), 13);
        c.same("people", x.count(0), 4);
        c.same("pieces", x.count(1), 5);
        c.same("full text", Shops.read(x, "b1;" + " ".repeat(147)), 1);
    }

    private static void promise4Faults() {
        c.part("4 shop, FAULT");
        fault("x", 0);
        fault(";", 0);
        fault(" ;", 1);
        fault("7", 0);
        fault("s", 1);
        fault("s  ", 3);
        fault("s;", 1);
        fault("s0", 2);
        fault("s0 1", 4);
        fault("s0 1 ", 5);
        fault("s4 1;", 1);
        fault("s0 0;", 3);
        fault("s0 21;", 3);
        fault("s0 20;s0 21;", 9);
        fault("s00 1;", 1);
        fault("s01 1;", 1);
        fault("s0 01;", 3);
        fault("s0 1 1;", 5);
        fault("s0 100;", 3);
        fault("s0 10000000000000000000001;", 3);
        fault("s0 4294967297;", 3);
        fault("s0 1x;", 4);
        fault("s0 1p", 4);
        fault("s\t0 1;", 1);
        fault("S0 1;", 0);
        fault("s" + (char) 255 + "0 1;", 1);
        fault("s0 1;;", 5);
        fault("p1 2 3;", 6);
        fault("p1 2 3 4 5;", 9);
        fault("p10 0 0 0;", 1);
        fault("p1 2 3 10;", 7);
        fault("p1234;", 1);
        fault("p0 0 0 -1;", 7);
        fault("p0 0 0 0;p0 0 0 0;p0 0 0 0;p0 0 0 0;p0 0 0 0;", 36);
        fault("p0 0 0 0;p0 0 0 0;p0 0 0 0;p0 0 0 0; p", 37);
        fault("g0 0 0;", 1);
        fault("g;", 1);
        fault("g", 1);
        fault("g0 0 0;p0 0 0 0;", 1);
        fault("p0 0 0 0;g1 0 0;", 10);
        fault("p0 0 0 0;g0 4 0;", 12);
        fault("p0 0 0 0;g0 0 4;", 14);
        fault("p0 0 0 0;g0 0;", 13);
        fault("b0;", 1);
        fault("b61;", 1);
        fault("b;", 1);
        fault("b1 1;", 3);
        fault("b1;b1;b1;b1;b1;b", 15);
        fault("b1;b1;b1;b1;b1;b1;", 15);
        fault("b1;s4 1;x", 4);
        fault("b1;x;s4 1;", 3);
        fault("b1;" + " ".repeat(146) + "b", 150);
    }

    private static void fault(String text, int place) {
        UnsaidScales x = Shops.told("s0 2;p1 2 3 4;g0 0 1;b5;");
        x.keeps(0, 0);
        x.day();
        x.shows(0, 5, 1);
        x.saw(0, 2);
        x.keep(1);
        c.same("'" + text + "'", Shops.read(x, text), -10 - place);
        c.same("'" + text + "' stays", x.count(4), text.length());
        c.same("weight stays", x.weight(0), 2);
        c.same("people stay", x.count(0), 1);
        c.same("held stays", Shops.allHeld(x, 0), 3234);
        c.same("grown stays", x.grows(0, 0), 1);
        c.same("pieces stay", x.weight(4), 5);
        c.same("day stays", x.now(0), 1);
        c.same("undone stays", x.now(6), 2);
        c.same("shown stays", x.count(2), 1);
        c.same("seen stays", x.count(3), 1);
        c.same("image stays", x.back(1), 1);
    }

    private static void promise4Anew() {
        c.part("4 shop, read anew");
        UnsaidScales x = Shops.told("s0 2;p1 2 3 4;p0 0 0 0;g0 0 1;b5;b6;");
        x.weighs(0, 1);
        x.day();
        x.shows(0, 5, 1);
        x.saw(0, 2);
        x.keep(0);
        x.keep(1);
        x.rate(0, 0);
        c.same("text", Shops.read(x, "p3 3 3 3;p1 1 1 1;b7;"), 3);
        c.same("weight is as at first", x.weight(0), 1);
        c.same("held", Shops.allHeld(x, 0), 3333);
        c.same("held by the other", Shops.allHeld(x, 1), 1111);
        c.same("grown", x.grows(0, 0), 0);
        c.same("pieces", x.count(1), 1);
        c.same("piece", x.weight(4), 7);
        c.same("no second piece", x.weight(5), NONE);
        c.same("brass of 5", x.brass(5, 0), NONE);
        c.same("brass of 7", x.brass(7, 0), 1);
        c.same("day", x.now(0), 0);
        c.same("known", x.known(0, 1), NONE);
        c.same("pairs", x.now(1), 0);
        c.same("undone", x.now(6), 0);
        c.same("undo", x.undo(), STATE);
        c.same("shown", x.count(2), 0);
        c.same("seen", x.count(3), 0);
        c.same("image 0", x.back(0), STATE);
        c.same("image 1", x.back(1), STATE);
        c.same("trace stays", x.trace(), 1);
        c.same("can is by the new weights", x.can(0, 2), 9 * 30);
        x.shows(1, 269, 1);
        c.same("can", x.can(1, 0), 1);
        c.same("empty", Shops.read(x, ""), 0);
        c.same("nobody", x.count(0), 0);
        c.same("no brass", x.count(1), 0);
        c.same("orders of nobody", x.now(2), 1);
    }

    private static void promise5Holds() {
        c.part("5 holds");
        UnsaidScales x = Shops.told("p1 2 3 4;p5 6 7 8;");
        c.same("0,0", x.holds(0, 0), 1);
        c.same("0,3", x.holds(0, 3), 4);
        c.same("1,0", x.holds(1, 0), 5);
        c.same("1,2", x.holds(1, 2), 7);
        c.same("2,0", x.holds(2, 0), BAD);
        c.same("-1,0", x.holds(-1, 0), BAD);
        c.same("0,4", x.holds(0, 4), BAD);
        c.same("0,-1", x.holds(0, -1), BAD);
        c.same("far", x.holds(Integer.MAX_VALUE, Integer.MIN_VALUE), BAD);
    }

    private static void promise6Grows() {
        c.part("6 grows");
        UnsaidScales x = Shops.told("p1 2 3 4;p5 6 7 8;g0 0 1;g1 3 3;");
        c.same("0,0", x.grows(0, 0), 1);
        c.same("0,1", x.grows(0, 1), 0);
        c.same("1,3", x.grows(1, 3), 3);
        x.day();
        c.same("1,3 behind a day", x.grows(1, 3), 3);
        c.same("2,0", x.grows(2, 0), BAD);
        c.same("-1,0", x.grows(-1, 0), BAD);
        c.same("1,4", x.grows(1, 4), BAD);
        c.same("1,-1", x.grows(1, -1), BAD);
    }

    private static void promise7Weight() {
        c.part("7 weight");
        UnsaidScales x = Shops.told("s2 20;s0 3;b8;b9;b10;b11;b12;");
        c.same("0", x.weight(0), 3);
        c.same("1", x.weight(1), 4);
        c.same("2", x.weight(2), 20);
        c.same("3", x.weight(3), 16);
        for (int i = 0; i < 5; i++) {
            c.same("piece " + i, x.weight(4 + i), 8 + i);
        }
        c.same("9", x.weight(9), BAD);
        c.same("-1", x.weight(-1), BAD);
        x = Shops.told("b8;b9;");
        c.same("second", x.weight(5), 9);
        c.same("third", x.weight(6), NONE);
        c.same("fifth", x.weight(8), NONE);
    }

    private static void promise8Heavy() {
        c.part("8 heavy");
        UnsaidScales x = Shops.told("p1 2 3 4;p9 9 9 9;p0 0 0 0;");
        c.same("0", x.heavy(0), 1 + 8 + 27 + 64);
        c.same("1", x.heavy(1), 270);
        c.same("2", x.heavy(2), 0);
        c.same("3", x.heavy(3), BAD);
        c.same("-1", x.heavy(-1), BAD);
        x = Shops.told("s0 20;s1 20;s2 20;s3 20;p9 9 9 9;");
        c.same("greatest", x.heavy(0), 720);
    }

    private static void promise9Known() {
        c.part("9 known");
        UnsaidScales x = Shops.told("p1 0 0 0;p2 0 0 0;p2 0 0 0;p0 0 0 0;");
        c.same("not yet", x.known(0, 1), NONE);
        x.weighs(0, 1);
        x.weighs(2, 1);
        x.weighs(2, 3);
        c.same("0,1", x.known(0, 1), 2);
        c.same("1,0", x.known(1, 0), 1);
        c.same("1,2", x.known(1, 2), 0);
        c.same("2,1", x.known(2, 1), 0);
        c.same("2,3", x.known(2, 3), 1);
        c.same("3,2", x.known(3, 2), 2);
        c.same("0,3", x.known(0, 3), NONE);
        x.keeps(0, 3);
        c.same("what was found stays", x.known(0, 1), 2);
        x.weighs(1, 0);
        c.same("the latest", x.known(0, 1), 1);
        c.same("alike", x.known(1, 1), BAD);
        c.same("4", x.known(0, 4), BAD);
        c.same("-1", x.known(-1, 0), BAD);
    }

    private static void promise10Now() {
        c.part("10 now");
        UnsaidScales x = Shops.told("p1 0 0 0;p2 0 0 0;b1;b3;b9;");
        c.same("-1", x.now(-1), BAD);
        c.same("7", x.now(7), BAD);
        x.day();
        x.day();
        x.weighs(1, 0);
        c.same("day", x.now(0), 2);
        c.same("pairs", x.now(1), 1);
        x.weighs(0, 1);
        c.same("one pair still", x.now(1), 1);
        c.same("range", x.now(5), 13);
        c.same("undone", x.now(6), 4);
        x.tells(0, 0, 0);
        x.tells(0, 1, 3);
        c.same("undone, refused ones do not count", x.now(6), 4);
        for (int i = 0; i < 7; i++) {
            x.day();
        }
        c.same("ten at most", x.now(6), 10);
        c.same("range of none", Shops.told("p1 0 0 0;").now(5), 0);
        c.same("range without 1", Shops.told("b2;").now(5), 0);
        c.same("range of 1", Shops.told("b1;").now(5), 1);
        c.same("range with a gap", Shops.told("b1;b4;b9;").now(5), 1);
        c.same("range of 2, 3", Shops.told("b2;b3;").now(5), 3);
        c.same("greatest known range", Shops.told("b1;b3;b9;b27;b60;").now(5), 100);
    }

    private static void promise10Orders() {
        c.part("10 now, ORDERS and WORST");
        int[] orders = {1, 1, 3, 13, 75};
        int[] worst = {0, 0, 1, 3, 5};
        String text = "";
        for (int n = 0; n <= 4; n++) {
            UnsaidScales x = Shops.told(text);
            c.same("orders of " + n, x.now(2), orders[n]);
            c.same("worst of " + n, x.now(3), worst[n]);
            c.same("next of " + n, x.now(4), n < 2 ? NONE : 1);
            text = text + "p0 0 0 " + n + ";";
        }
        UnsaidScales x = Shops.told("p3 0 0 0;p2 0 0 0;p1 0 0 0;");
        x.weighs(0, 1);
        c.same("orders", x.now(2), 5);
        c.same("worst", x.now(3), 2);
        c.same("next", x.now(4), 2);
        x.weighs(1, 2);
        c.same("orders told by two", x.now(2), 1);
        c.same("worst", x.now(3), 0);
        c.same("next", x.now(4), NONE);
        x.keeps(2, 3);
        x.weighs(0, 2);
        c.same("no order is left: a ring", x.now(2), 0);
        c.same("worst", x.now(3), 0);
        c.same("next", x.now(4), NONE);
        x.undo();
        c.same("undone", x.now(2), 1);
        x.forgets();
        c.same("forgotten", x.now(2), 13);
        c.same("the same object with fewer people", Shops.read(x, "p0 0 0 0;p1 0 0 0;"), 2);
        c.same("orders", x.now(2), 3);
        c.same("worst", x.now(3), 1);
        c.same("and with more", Shops.read(x, "p0 0 0 0;p1 0 0 0;p0 0 0 0;p1 0 0 0;"), 4);
        c.same("orders", x.now(2), 75);
        x.weighs(0, 2);
        c.same("orders, two level", x.now(2), 13);
        x.weighs(1, 3);
        c.same("orders, two pairs level", x.now(2), 3);
        c.same("worst", x.now(3), 1);
        c.same("next", x.now(4), 1);
    }

    private static void promise10Next() {
        c.part("10 now, NEXT");
        // 0 over 1 over 2, and 3: put in between by halves, so 1 against 3 comes ahead of 0 against 3.
        UnsaidScales x = Shops.told("p3 0 0 0;p2 0 0 0;p1 0 0 0;p0 0 0 0;");
        x.weighs(0, 1);
        x.weighs(1, 2);
        c.same("orders", x.now(2), 7);
        c.same("worst", x.now(3), 2);
        c.same("next", x.now(4), 13);
        x.weighs(1, 3);
        c.same("worst", x.now(3), 1);
        c.same("next", x.now(4), 23);
        x.weighs(0, 2);
        x.weighs(0, 3);
        c.same("worst, what follows tells nothing", x.now(3), 1);
        c.same("next", x.now(4), 23);
        x.weighs(2, 3);
        c.same("next, all known", x.now(4), NONE);
    }

    private static void promise11Tells() {
        c.part("11 tells");
        UnsaidScales x = Shops.told("p2 1 0 1;p0 0 9 0;");
        c.same("sort 3", x.tells(0, 1, 3), 6);
        c.same("one less", x.holds(0, 3), 0);
        c.same("9 at most", x.holds(1, 2), 9);
        c.same("sort 1", x.tells(0, 1, 1), 2);
        c.same("one more of the sort below", x.holds(1, 0), 1);
        c.same("none of the same sort", x.holds(1, 1), 0);
        c.same("sort 0", x.tells(0, 1, 0), 1);
        c.same("of sort 0 none", Shops.allHeld(x, 1), 1090);
        c.same("none of it", x.tells(0, 1, 1), STATE);
        c.same("alike", x.tells(0, 0, 0), BAD);
        c.same("BAD ahead of STATE", x.tells(0, 0, 1), BAD);
        c.same("no such one", x.tells(2, 0, 0), BAD);
        c.same("no such other one", x.tells(0, 2, 0), BAD);
        c.same("-1", x.tells(-1, 0, 0), BAD);
        c.same("sort 4", x.tells(0, 1, 4), BAD);
        c.same("sort -1", x.tells(0, 1, -1), BAD);
        c.same("nothing changed", Shops.allHeld(x, 0), 1000);
        c.same("undone", x.now(6), 3);
    }

    private static void promise12Keeps() {
        c.part("12 keeps");
        UnsaidScales x = Shops.told("p0 0 8 0;p0 0 0 0;");
        c.same("ninth", x.keeps(0, 2), 9);
        c.same("tenth", x.keeps(0, 2), STATE);
        c.same("stays", x.holds(0, 2), 9);
        c.same("first", x.keeps(1, 0), 1);
        c.same("second", x.keeps(1, 0), 2);
        c.same("undone", x.now(6), 3);
        c.same("no such one", x.keeps(2, 0), BAD);
        c.same("-1", x.keeps(-1, 0), BAD);
        c.same("sort 4", x.keeps(0, 4), BAD);
        c.same("sort -1", x.keeps(0, -1), BAD);
    }

    private static void promise13Day() {
        c.part("13 day");
        UnsaidScales x = Shops.told("p0 0 0 8;p9 0 0 0;g0 0 3;g0 3 2;g1 1 1;");
        c.same("1", x.day(), 1);
        c.same("grown, 9 at most", Shops.allHeld(x, 0), 3009);
        c.same("the other one", Shops.allHeld(x, 1), 9100);
        c.same("2", x.day(), 2);
        c.same("3", x.day(), 3);
        c.same("4", x.day(), 4);
        c.same("9 at most", Shops.allHeld(x, 0), 9009);
        c.same("growing goes on", Shops.allHeld(x, 1), 9400);
        c.same("day", x.now(0), 4);
        // 999 lies behind the 512 calls that are promised; it must not be passed all the same.
        for (int i = 5; i <= 999; i++) {
            x.day();
        }
        c.same("999", x.now(0), 999);
        c.same("no more", x.day(), STATE);
        c.same("stays", x.now(0), 999);
    }

    private static void promise14Weighs() {
        c.part("14 weighs");
        UnsaidScales x = Shops.told("p4 0 0 0;p0 1 0 0;p0 0 1 0;");
        c.same("level", x.weighs(0, 1), 0);
        c.same("second", x.weighs(0, 2), 2);
        c.same("first", x.weighs(2, 0), 1);
        c.same("first", x.weighs(2, 1), 1);
        c.same("known", x.now(1), 3);
        c.same("undone", x.now(6), 4);
        c.same("alike", x.weighs(1, 1), BAD);
        c.same("3", x.weighs(0, 3), BAD);
        c.same("-1", x.weighs(-1, 0), BAD);
        c.same("undone behind refused ones", x.now(6), 4);
    }

    private static void promise15Forgets() {
        c.part("15 forgets");
        UnsaidScales x = Shops.told("p4 0 0 0;p0 1 0 0;p0 0 1 0;");
        c.same("none", x.forgets(), 0);
        x.weighs(0, 1);
        x.weighs(1, 0);
        x.weighs(0, 2);
        c.same("two", x.forgets(), 2);
        c.same("pairs", x.now(1), 0);
        c.same("known", x.known(0, 1), NONE);
        c.same("undone", x.now(6), 5);
        x.undo();
        c.same("known again", x.known(0, 1), 0);
        c.same("pairs again", x.now(1), 2);
    }

    private static void promise16Undo() {
        c.part("16 undo");
        UnsaidScales x = Shops.told("p4 0 0 1;p0 9 9 0;g0 1 2;g1 1 3;");
        x.tells(0, 1, 3);
        x.keeps(0, 2);
        x.day();
        x.weighs(0, 1);
        x.forgets();
        c.same("forgets", x.undo(), 4);
        c.same("known", x.known(0, 1), 2);
        c.same("weighs", x.undo(), 3);
        c.same("known", x.known(0, 1), NONE);
        c.same("day", x.undo(), 2);
        c.same("day it is", x.now(0), 0);
        c.same("held", Shops.allHeld(x, 0), 4010);
        c.same("what was at 9 stays", Shops.allHeld(x, 1), 990);
        c.same("keeps", x.undo(), 1);
        c.same("held", Shops.allHeld(x, 0), 4000);
        c.same("tells", x.undo(), 0);
        c.same("held", Shops.allHeld(x, 0), 4001);
        c.same("the other one", Shops.allHeld(x, 1), 990);
        c.same("none", x.undo(), STATE);
        for (int i = 0; i < 12; i++) {
            x.day();
        }
        for (int i = 9; i >= 0; i--) {
            c.same("of twelve", x.undo(), i);
        }
        c.same("older ones are lost", x.undo(), STATE);
        c.same("two days stay", x.now(0), 2);
        x.weighs(0, 1);
        x.keeps(0, 3);
        x.keeps(0, 3);
        x.keeps(0, 3);
        x.weighs(0, 1);
        c.same("known", x.known(0, 1), 2);
        x.undo();
        c.same("what was found ahead of it", x.known(0, 1), 2);
        c.same("shows, saw, keep are not undone", x.shows(0, 1, 1) + x.saw(0, 1) + x.keep(0), 4);
        c.same("undo", x.undo(), 3);
        c.same("shown", x.count(2), 1);
        c.same("seen", x.count(3), 1);
        c.same("held", x.holds(0, 3), 3);
    }

    private static void promise17Beam() {
        c.part("17 beam");
        UnsaidScales x = Shops.told("p4 0 0 0;p0 1 0 0;p0 0 1 0;");
        c.same("level", x.beam(0, 1), 0);
        c.same("less", x.beam(0, 2), -5);
        c.same("more", x.beam(2, 1), 5);
        c.same("-1 is an answer", Shops.told("p0 0 0 0;p1 0 0 0;").beam(0, 1), -1);
        c.same("alike", x.beam(0, 0), NO);
        c.same("3", x.beam(0, 3), NO);
        c.same("-1", x.beam(-1, 0), NO);
        c.same("nothing is known by it", x.now(1), 0);
    }

    private static void level(UnsaidScales x, int things, int heaviness, int first, int second) {
        c.same("things", x.level(0, 1, 0), things);
        c.same("heaviness", x.level(0, 1, 1), heaviness);
        int[] tens = {1000, 100, 10, 1};
        for (int s = 0; s < 4; s++) {
            c.same("first says of " + s, x.level(0, 1, 2 + s), first / tens[s] % 10);
            c.same("second says of " + s, x.level(0, 1, 6 + s), second / tens[s] % 10);
        }
    }

    private static void promise18Level() {
        c.part("18 level");
        level(Shops.told("p0 0 0 0;p0 0 0 0;"), 0, 0, 0, 0);
        level(Shops.told("p9 9 9 9;p9 9 9 9;"), 0, 270, 0, 0);
        level(Shops.told("p9 9 9 9;p0 0 0 0;"), 36, 0, 9999, 0);
        level(Shops.told("p0 0 0 0;p1 2 3 4;"), 10, 0, 0, 1234);
        c.part("18 level, both say");
        // 13 against 20: nothing said by one alone makes up for 7, but 9 and 16 do.
        level(Shops.told("p0 1 1 0;p0 1 0 1;"), 2, 4, 10, 1);
        c.part("18 level, greatest heaviness");
        // 5 against 4: 2 and 1 said leave 3, 3 and 2 said leave 2.
        level(Shops.told("s0 1;s1 2;s2 3;s3 4;p0 1 1 0;p2 1 0 0;"), 2, 3, 100, 1000);
        c.part("18 level, the first way");
        // 5 are shed as 4 and 1, or as 3 and 2: fewest of SORT 0.
        level(Shops.told("s0 4;s1 3;s2 2;s3 1;p2 2 2 2;p0 5 0 0;"), 2, 15, 110, 0);
        level(Shops.told("s0 4;s1 3;s2 2;s3 1;p0 5 0 0;p2 2 2 2;"), 2, 15, 0, 110);
        // 6 are shed as 5 and 1, or as 3 and 3: fewest of SORT 1.
        level(Shops.told("s0 20;s1 5;s2 3;s3 1;p0 1 2 1;p0 0 2 0;"), 2, 6, 20, 0);
        c.part("18 level, wrong");
        UnsaidScales x = Shops.told("p1 2 3 4;p0 0 0 0;");
        c.same("alike", x.level(0, 0, 0), BAD);
        c.same("2", x.level(0, 2, 0), BAD);
        c.same("-1", x.level(-1, 0, 0), BAD);
        c.same("what 10", x.level(0, 1, 10), BAD);
        c.same("what -1", x.level(0, 1, -1), BAD);
        x.level(0, 1, 0);
        c.same("nothing is said", Shops.allHeld(x, 0), 1234);
    }

    private static void promise19When() {
        c.part("19 when");
        UnsaidScales x = Shops.told("p0 0 0 0;p5 0 0 0;p0 0 0 9;p5 0 0 0;g0 0 1;g2 3 3;");
        c.same("now", x.when(1, 0), 0);
        c.same("heavier, not level", x.when(0, 1), 6);
        c.same("never, level", x.when(1, 3), NONE);
        c.same("never, as 9 are the most", x.when(0, 2), NONE);
        x.day();
        x.day();
        c.same("the day is told, not how many", x.when(0, 1), 6);
        c.same("now", x.when(1, 0), 2);
        c.same("nothing changes", x.now(0), 2);
        c.same("alike", x.when(0, 0), BAD);
        c.same("4", x.when(0, 4), BAD);
        c.same("-1", x.when(-1, 0), BAD);
        x = Shops.told("s0 1;s1 20;p0 0 0 0;p0 0 0 0;g0 0 3;g1 1 1;");
        c.same("both grow", x.when(1, 0), 1);
        c.same("both grow", x.when(0, 1), NONE);
    }

    private static void odds(UnsaidScales x, int s, int tenths, long upper, long lower) {
        c.same("upper of " + s + ", " + tenths, x.odds(0, 1, s, tenths, 0), upper);
        c.same("lower of " + s + ", " + tenths, x.odds(0, 1, s, tenths, 1), lower);
    }

    private static void promise20Odds() {
        c.part("20 odds");
        UnsaidScales x = Shops.told("p3 0 0 0;p2 0 0 0;");
        odds(x, 0, 5, 1, 2);
        odds(x, 0, 0, 0, 1);
        odds(x, 0, 10, 1, 1);
        odds(x, 0, 1, 7, 250);
        odds(x, 1, 5, 0, 1);
        x = Shops.told("p2 0 0 0;p2 0 0 0;");
        odds(x, 0, 1, 19, 100);
        odds(x, 0, 5, 3, 4);
        odds(x, 2, 5, 0, 1);
        x = Shops.told("p9 0 0 0;p1 0 0 0;");
        odds(x, 0, 3, 19683, 1000000000);
        odds(x, 0, 5, 1, 512);
        x = Shops.told("p1 1 0 0;p0 0 1 0;");
        odds(x, 0, 7, 1, 1);
        x = Shops.told("p0 0 0 2;p0 0 2 0;");
        odds(x, 3, 4, 16, 25);
        c.same("alike", x.odds(0, 0, 0, 0, 0), BAD);
        c.same("2", x.odds(0, 2, 0, 0, 0), BAD);
        c.same("-1", x.odds(-1, 0, 0, 0, 0), BAD);
        c.same("sort 4", x.odds(0, 1, 4, 0, 0), BAD);
        c.same("sort -1", x.odds(0, 1, -1, 0, 0), BAD);
        c.same("x 11", x.odds(0, 1, 0, 11, 0), BAD);
        c.same("x -1", x.odds(0, 1, 0, -1, 0), BAD);
        c.same("what 2", x.odds(0, 1, 0, 0, 2), BAD);
        c.same("what -1", x.odds(0, 1, 0, 0, -1), BAD);
    }

    private static void brass(UnsaidScales x, int v, int pieces, int heavier, int other) {
        c.same("pieces for " + v, x.brass(v, 0), pieces);
        c.same("heavier pan for " + v, x.brass(v, 1), heavier);
        c.same("other pan for " + v, x.brass(v, 2), other);
    }

    private static void promise21Brass() {
        c.part("21 brass");
        UnsaidScales x = Shops.told("b1;b3;b9;");
        brass(x, 0, 0, 0, 0);
        brass(x, 1, 1, 1, 0);
        brass(x, 2, 2, 2, 1);
        brass(x, 5, 3, 4, 3);
        brass(x, 13, 3, 7, 0);
        brass(x, 14, NONE, NONE, NONE);
        brass(x, 300, NONE, NONE, NONE);
        x = Shops.told("b2;b2;b5;b11;b40;");
        brass(x, 2, 1, 1, 0);
        brass(x, 4, 2, 3, 0);
        brass(x, 3, 2, 4, 1);
        brass(x, 9, 2, 8, 1);
        brass(x, 7, 2, 5, 0);
        // Fewest pieces go ahead of the first bits: 3 and 4 in bits are 7, one piece is 16.
        x = Shops.told("b3;b4;b1;b2;b7;");
        brass(x, 7, 1, 16, 0);
        brass(x, 5, 2, 6, 0);
        brass(x, 6, 2, 10, 0);
        brass(x, 8, 2, 20, 0);
        x = Shops.told("b60;b60;b60;b60;b60;");
        brass(x, 300, 5, 31, 0);
        brass(x, 180, 3, 7, 0);
        // As many pieces and one heavier pan: the other pan's bits decide.
        x = Shops.told("b9;b2;b2;");
        brass(x, 7, 2, 1, 2);
        c.same("-1", x.brass(-1, 0), BAD);
        c.same("301", x.brass(301, 0), BAD);
        c.same("what 3", x.brass(0, 3), BAD);
        c.same("what -1", x.brass(0, -1), BAD);
        c.same("BAD ahead of NONE", x.brass(300, 3), BAD);
    }

    private static void promise22Shows() {
        c.part("22 shows");
        UnsaidScales x = Shops.told("p1 2 3 4;p0 0 0 0;");
        c.same("1", x.shows(0, 0, 0), 1);
        c.same("2", x.shows(1, 720, 2), 2);
        c.same("no such one", x.shows(2, 0, 0), BAD);
        c.same("-1", x.shows(-1, 0, 0), BAD);
        c.same("brass 721", x.shows(0, 721, 0), BAD);
        c.same("brass -1", x.shows(0, -1, 0), BAD);
        c.same("how 3", x.shows(0, 0, 3), BAD);
        c.same("how -1", x.shows(0, 0, -1), BAD);
        for (int i = 3; i <= 6; i++) {
            c.same("" + i, x.shows(0, 0, 1), i);
        }
        c.same("seventh", x.shows(0, 0, 1), FULL);
        c.same("BAD ahead of FULL", x.shows(0, 0, 3), BAD);
        c.same("shown", x.count(2), 6);
        c.same("nothing to be undone", x.now(6), 0);
    }

    private static void can(UnsaidScales x, int p, int ways, int least, int greatest) {
        c.same("ways of " + p, x.can(p, 0), ways);
        c.same("least of " + p, x.can(p, 1), least);
        c.same("greatest of " + p, x.can(p, 2), greatest);
    }

    private static void promise23Can() {
        c.part("23 can");
        UnsaidScales x = Shops.told("p1 2 3 4;p0 0 0 0;");
        can(x, 0, 10000, 0, 270);
        x.shows(0, 0, 1);
        can(x, 0, 9999, 1, 270);
        can(x, 1, 10000, 0, 270);
        x.shows(0, 4, 2);
        can(x, 0, 3, 1, 3);
        x.shows(1, 4, 0);
        can(x, 1, 2, 4, 4);
        x.shows(1, 4, 0);
        can(x, 1, 2, 4, 4);
        x.shows(1, 5, 0);
        can(x, 1, 0, NONE, NONE);
        x.clean();
        x.shows(0, 0, 2);
        can(x, 0, 0, NONE, NONE);
        x.shows(1, 720, 1);
        can(x, 1, 0, NONE, NONE);
        x.clean();
        can(x, 0, 10000, 0, 270);
        x = Shops.told("s0 20;s1 20;s2 20;s3 20;p0 0 0 0;");
        can(x, 0, 10000, 0, 720);
        x.shows(0, 30, 1);
        x.shows(0, 59, 2);
        can(x, 0, 10, 40, 40);
        x.shows(0, 41, 1);
        can(x, 0, 0, NONE, NONE);
        c.same("no such one", x.can(1, 0), BAD);
        c.same("-1", x.can(-1, 0), BAD);
        c.same("what 3", x.can(0, 3), BAD);
        c.same("what -1", x.can(0, -1), BAD);
    }

    private static void promise24Saw() {
        c.part("24 saw");
        UnsaidScales x = Shops.told("p1 2 3 4;p0 0 0 0;");
        c.same("1", x.saw(0, 0), 1);
        c.same("2", x.saw(1, 240), 2);
        c.same("no such one", x.saw(2, 0), BAD);
        c.same("-1", x.saw(-1, 0), BAD);
        c.same("241", x.saw(0, 241), BAD);
        c.same("v -1", x.saw(0, -1), BAD);
        for (int i = 3; i <= 6; i++) {
            c.same("" + i, x.saw(0, 1), i);
        }
        c.same("seventh", x.saw(0, 1), FULL);
        c.same("BAD ahead of FULL", x.saw(0, 241), BAD);
        c.same("seen", x.count(3), 6);
        c.same("shown are others", x.shows(0, 0, 0), 1);
        c.same("nothing to be undone", x.now(6), 0);
    }

    private static void laws(UnsaidScales x, int p, int ways, int first) {
        c.same("laws of " + p, x.laws(p, 0), ways);
        c.same("first of " + p, x.laws(p, 1), first);
    }

    private static void promise25Laws() {
        c.part("25 laws");
        UnsaidScales x = Shops.told("s0 1;s1 2;s2 3;s3 4;p9 9 9 9;p0 0 0 0;");
        laws(x, 0, 256, 0);
        x.saw(0, 4);
        // 0001; 0200; 1010; 2100.
        laws(x, 0, 4, 1);
        laws(x, 1, 256, 0);
        x.saw(1, 5);
        // 0110; 1001; 1200; 2010; 3100.
        laws(x, 1, 5, 110);
        x.saw(0, 4);
        laws(x, 0, 4, 1);
        x.saw(0, 5);
        laws(x, 0, 0, NONE);
        x.clean();
        x.saw(0, 30);
        laws(x, 0, 1, 3333);
        x.saw(1, 31);
        laws(x, 1, 0, NONE);
        x.clean();
        x.saw(0, 0);
        laws(x, 0, 1, 0);
        c.same("no such one", x.laws(2, 0), BAD);
        c.same("-1", x.laws(-1, 0), BAD);
        c.same("what 2", x.laws(0, 2), BAD);
        c.same("what -1", x.laws(0, -1), BAD);
    }

    private static void promise26Clean() {
        c.part("26 clean");
        UnsaidScales x = Shops.told("p1 2 3 4;");
        c.same("nothing", x.clean(), 0);
        x.shows(0, 1, 1);
        x.shows(0, 2, 1);
        x.saw(0, 1);
        c.same("both", x.clean(), 3);
        c.same("shown", x.count(2), 0);
        c.same("seen", x.count(3), 0);
        c.same("can", x.can(0, 0), 10000);
        c.same("laws", x.laws(0, 0), 256);
        c.same("again", x.clean(), 0);
        c.same("shows", x.shows(0, 0, 1), 1);
    }

    private static void promise27Rate() {
        c.part("27 rate");
        UnsaidScales x = Shops.told("p0 0 0 0;p1 2 3 4;g1 0 3;g1 3 2;g0 0 1;");
        c.same("PERSON", x.rate(0, 1), 100);
        c.same("BRIDE", x.rate(1, 1), 110);
        c.same("PARTNER", x.rate(2, 1), 95);
        c.same("BROTHER", x.rate(3, 1), 220);
        c.same("BANKRUPT", x.rate(4, 1), 96);
        c.same("STRANGER", x.rate(5, 1), 100);
        c.same("below 0", x.rate(2, 0), -1);
        x.day();
        x.day();
        c.same("STRANGER on day 2", x.rate(5, 1), 6 + 100 + 32 + 32 + 2);
        c.same("kind 6", x.rate(6, 0), NO);
        c.same("kind -1", x.rate(-1, 0), NO);
        c.same("no such one", x.rate(0, 2), NO);
        c.same("-1", x.rate(0, -1), NO);
    }

    private static void promise28Keep() {
        c.part("28 keep");
        UnsaidScales x = Shops.told("p1 2 3 4;");
        x.day();
        c.same("0", x.keep(0), 1);
        x.day();
        c.same("1", x.keep(1), 2);
        c.same("2", x.keep(2), BAD);
        c.same("-1", x.keep(-1), BAD);
        c.same("may be undone still", x.now(6), 2);
        c.same("undo", x.undo(), 1);
        c.same("an image is kept again", x.keep(1), 1);
        x.day();
        x.day();
        c.same("the later", x.back(1), 1);
    }

    private static void promise29Back() {
        c.part("29 back");
        UnsaidScales x = Shops.told("p1 2 3 4;p0 0 0 0;g0 0 1;");
        c.same("none", x.back(0), STATE);
        c.same("2", x.back(2), BAD);
        c.same("-1", x.back(-1), BAD);
        x.day();
        x.weighs(0, 1);
        x.keep(0);
        c.same("the other one", x.back(1), STATE);
        c.same("may be undone still", x.now(6), 2);
        x.day();
        x.tells(0, 1, 3);
        x.forgets();
        x.shows(0, 1, 1);
        x.saw(0, 1);
        x.type('p');
        x.rate(0, 0);
        c.same("back", x.back(0), 1);
        c.same("day", x.now(0), 1);
        c.same("held", Shops.allHeld(x, 0), 2234);
        c.same("the other one", Shops.allHeld(x, 1), 0);
        c.same("known", x.known(0, 1), 1);
        c.same("nothing to be undone", x.now(6), 0);
        c.same("undo", x.undo(), STATE);
        c.same("shown stays", x.count(2), 1);
        c.same("seen stays", x.count(3), 1);
        c.same("text stays", x.count(4), 1);
        c.same("trace stays", x.trace(), 1);
        x.keeps(1, 1);
        c.same("an image does not change", x.back(0), 1);
        c.same("the other one", Shops.allHeld(x, 1), 0);
    }

    private static void promise30Count() {
        c.part("30 count");
        UnsaidScales x = Shops.told("p1 2 3 4;p0 0 0 0;p0 0 0 0;b1;b2;");
        x.shows(0, 1, 1);
        x.shows(0, 2, 1);
        x.shows(1, 2, 1);
        x.shows(1, 2, 1);
        x.saw(0, 1);
        Shops.typeAll(x, "p1 2 ");
        c.same("people", x.count(0), 3);
        c.same("pieces", x.count(1), 2);
        c.same("shown", x.count(2), 4);
        c.same("seen", x.count(3), 1);
        c.same("letters", x.count(4), 5);
        c.same("5", x.count(5), BAD);
        c.same("-1", x.count(-1), BAD);
    }

    private static void promise31Trace() {
        c.part("31 trace");
        UnsaidScales x = Shops.told("p1 2 3 4;");
        long[] added = {1, 11, 101, 1011, 10101, 100001};
        long sum = 0;
        for (int kind = 0; kind < 6; kind++) {
            x.rate(kind, 0);
            sum += added[kind];
            c.same("kind " + kind, x.trace(), sum);
        }
        x.rate(6, 0);
        x.rate(-1, 0);
        x.rate(3, 1);
        c.same("refused ones", x.trace(), sum);
        x.day();
        x.undo();
        x.heavy(0);
        c.same("other calls", x.trace(), sum);
        x.rate(3, 0);
        c.same("again", x.trace(), sum + 1011);
    }
}
