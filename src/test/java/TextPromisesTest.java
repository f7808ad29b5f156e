/** Promises 1 to 9 and 34: the tape, texts and their faults, what is set by hand, the counts. */
public final class TextPromisesTest {
    private static final Check CHECK = new Check();
    private static final String LAW_A = "law a:0 0,1 1;";
    private static final String DRAG_D = "drag d:0 0,1 1;";
    private static final String BOTH = LAW_A + DRAG_D;

    public static void main(String[] args) {
        promise1();
        promise2();
        promise3();
        promise4();
        syntax();
        syntaxInConditions();
        roomForTells();
        roomBehindCommas();
        roomForTokens();
        names();
        numbers();
        nothingStays();
        promise5();
        promise6();
        promise7();
        promise8();
        promise9();
        promise34();
        CHECK.end("TextPromisesTest");
    }

    private static void promise1() {
        WingHouse house = new WingHouse();
        CHECK.same("1 texts", house.count(0), 0);
        CHECK.same("1 hand", house.count(1), -1);
        CHECK.same("1 runs", house.count(2), 0);
        CHECK.same("1 tape", house.count(7), 0);
        CHECK.same("1 place", house.place(), -1);
        CHECK.no("1 use", house.use(0));
        CHECK.same("1 constant", WingHouse.NONE, -1);
    }

    private static void promise2() {
        WingHouse house = new WingHouse();
        // "law a:0 0,1 1;drag d" by its bytes, the highest of each int first.
        CHECK.same("2 first", house.feed(0x6c617720, 0x613a3020, 0x302c3120, 0x313b6472, 0x61672064), 20);
        CHECK.same("2 behind", house.feed(0x3a302030, 0x2c312031, 0x3b202020, 0x20202020, 0x20202020), 40);
        CHECK.same("2 read", house.read(), 0);
        CHECK.same("2 laws", house.count(3), 2);
        for (int i = 1; i <= 100; i++) {
            CHECK.same("2 feed " + i, house.feed(-1, 0, 1, Integer.MIN_VALUE, Integer.MAX_VALUE), 20 * i);
        }
        CHECK.same("2 full", house.feed(0, 0, 0, 0, 0), -1);
        CHECK.same("2 still", house.count(7), 2000);
        CHECK.same("2 back", house.back(19), 1981);
        CHECK.same("2 no room for twenty", house.feed(0, 0, 0, 0, 0), -1);
        CHECK.same("2 back once more", house.back(1), 1980);
        CHECK.same("2 just room", house.feed(0, 0, 0, 0, 0), 2000);
        CHECK.same("2 bytes above 127 are no tokens", house.read(), 1);
    }

    private static void promise3() {
        WingHouse house = new WingHouse();
        CHECK.same("3 none of none", house.back(0), 0);
        CHECK.same("3 one of none", house.back(1), -1);
        Check.feed(house, LAW_A + "x!");
        CHECK.same("3 below 0", house.back(-1), -1);
        CHECK.same("3 least", house.back(Integer.MIN_VALUE), -1);
        CHECK.same("3 too many", house.back(17), -1);
        CHECK.same("3 nothing gone", house.count(7), 16);
        CHECK.same("3 two", house.back(2), 14);
        CHECK.same("3 the rest is read", house.read(), 0);
        Check.feed(house, LAW_A);
        CHECK.same("3 all", house.back(14), 0);
        CHECK.same("3 empty", house.read(), 0);
        CHECK.same("3 no laws", house.count(3), 0);
    }

    private static void promise4() {
        WingHouse house = new WingHouse();
        CHECK.same("4 first", Check.read(house, BOTH), 0);
        CHECK.same("4 tape is empty", house.count(7), 0);
        CHECK.same("4 fault", Check.read(house, BOTH + "law"), 1);
        CHECK.same("4 tape is empty after a fault", house.count(7), 0);
        CHECK.same("4 no text by a fault", house.count(0), 1);
        CHECK.same("4 hand stays", house.count(1), 0);
        CHECK.same("4 laws stay", house.count(3), 2);
        for (int i = 1; i < 4; i++) {
            CHECK.same("4 more", Check.read(house, LAW_A), 0);
            CHECK.same("4 at hand", house.count(1), i);
        }
        Check.feed(house, "law");
        CHECK.same("4 full", house.read(), -2);
        CHECK.same("4 tape stays", house.count(7), 3);
        CHECK.same("4 texts", house.count(0), 4);
        CHECK.same("4 place stays", house.place(), -1);
        house.use(0);
        CHECK.same("4 the first is as it was", house.count(3), 2);
    }

    /** The fault of a text and its place, alone and behind a text without a fault. */
    private static void fault(String text, int fault, int place) {
        WingHouse house = new WingHouse();
        CHECK.same("fault of " + text, Check.read(house, text), fault);
        CHECK.same("place of " + text, house.place(), place);
        CHECK.same("texts after " + text, house.count(0), fault == 0 ? 1 : 0);
    }

    private static void syntax() {
        fault("", 0, -1);
        fault(" \t\n\r ", 0, -1);
        fault("\u000b", 1, 0);
        fault("a", 1, 0);
        fault(";", 1, 0);
        fault("law", 1, 3);
        fault("law  ", 1, 5);
        fault("law a", 1, 5);
        fault("law law:0 0,1 1;", 1, 4);
        fault("law down:0 0,1 1;", 1, 4);
        fault("law downs:0 0,1 1;", 0, -1);
        fault("law abcdefgh:0 0,1 1;", 0, -1);
        fault("law abcdefghi:0 0,1 1;", 1, 4);
        fault("law a:0 0;", 1, 9);
        fault("law a:0 0,1 1", 1, 13);
        fault("law a:0 0,1 1,;", 1, 14);
        fault("law a:0 0,--1 1;", 1, 11);
        fault("law a:0 0,+1 1;", 1, 10);
        fault("law a:00 0000,001 1;", 0, -1);
        fault("law a:0 00000,1 1;", 1, 8);
        fault("law a:-90-999,90 999;", 0, -1);
        fault("lawa:0 0,1 1;", 1, 0);
        fault("law A:0 0,1 1;", 1, 4);
        fault("law\ta\n:\r0 0,1 1;", 0, -1);
        fault("law a:0 0,1 1;.", 1, 14);
        fault("law a:0 0,1 1;\u00e9", 1, 14);
        fault("hinge h 5;hinge g-5;", 1, 17);
        fault("hinge h 5;hinge;", 1, 15);
        fault(BOTH + "wing w:;", 1, 36);
        fault(BOTH + "wing w:-1 a d 0;", 1, 36);
        fault(BOTH + "wing w:1 a d;", 1, 41);
        fault(BOTH + "wing w:1 a d 0 on;", 1, 46);
        fault(BOTH + "wing w:1 a d 0 deep-50;", 1, 48);
        fault(BOTH + "wing w:1 a d 0 mass 1 1 1;", 1, 54);
        fault(BOTH + "wing w:1 a d 0 stiff 1,1 a d 0;", 1, 51);
        fault(BOTH + "wing w:1 a d-0 stiff 1sweep-9deep 50mass 1 2 3 4deep 60;", 0, -1);
    }

    private static void syntaxInConditions() {
        fault("bar b if 1==1;", 0, -1);
        fault("bar b 1==1;", 1, 6);
        fault("bar b if 1;", 1, 10);
        fault("bar b if 1=1;", 1, 10);
        fault("bar b if 1= =1;", 1, 10);
        fault("bar b if 1!1;", 1, 10);
        fault("bar b if 1===1;", 1, 12);
        fault("bar b if 1<==1;", 1, 12);
        fault("bar b if 1<=1;", 0, -1);
        fault("bar b if 1< =1;", 1, 12);
        fault("bar b if 1==1==1;", 1, 13);
        fault("bar b if(1==1);", 1, 10);
        fault("bar b if((1))==(((1)));", 0, -1);
        fault("bar b if((1)==1;", 1, 12);
        fault("bar b if 1)==1;", 1, 10);
        fault("bar b if()==1;", 1, 9);
        fault("bar b if-1==1;", 1, 8);
        fault("bar b if 1+==1;", 1, 11);
        fault("bar b if 1 1==1;", 1, 11);
        fault("bar b if not not 1!=1 and not 1<1 or 2*at/3-down<=bend+speed*(twist+width)-lift/slant;", 0, -1);
        fault("bar b if 1==1 not;", 1, 14);
        fault("bar b if 1==not 1;", 1, 12);
        fault("bar b if 1==1 and;", 1, 17);
        fault("bar b if 1==1 or", 1, 16);
        fault("bar b if b==1;", 1, 9);
        fault("bar b if;", 1, 8);
    }

    private static String laws(int n) {
        StringBuilder text = new StringBuilder();
        for (int i = 0; i < n; i++) {
            text.append(i % 2 == 0 ? "law " : "drag ").append((char) ('a' + i)).append(":0 0,1 1;");
        }
        return text.toString();
    }

    private static String rows(String of, int n, String rest) {
        StringBuilder text = new StringBuilder();
        for (int i = 0; i < n; i++) {
            text.append(of).append(' ').append((char) ('p' + i)).append(rest);
        }
        return text.toString();
    }

    private static void roomForTells() {
        fault(laws(8), 0, -1);
        fault(laws(8) + "drag z:0 0,1 1;", 2, laws(8).length());
        fault(laws(8) + " law!", 2, laws(8).length() + 1);
        fault(laws(8) + "!", 1, laws(8).length());
        String hinges = rows("hinge", 4, " 1;");
        fault(hinges, 0, -1);
        fault(hinges + "hinge z 1;", 2, hinges.length());
        String wings = BOTH + rows("wing", 4, ":1 a d 0;");
        fault(wings, 0, -1);
        fault(wings + "wing z:1 a d 0;", 2, wings.length());
        String bars = rows("bar", 8, " if 1==1;");
        fault(bars, 0, -1);
        fault(bars + "bar z if 1==1;", 2, bars.length());
        fault("bar b if((((((1))))))==1;", 0, -1);
        fault("bar b if 1==((((((1))))))*((((((2))))));", 0, -1);
        fault("bar b if(((((((1)))))))==1;", 2, 14);
        fault("bar b if 1==2*(((1+((((1)))))));", 2, 22);
    }

    private static void roomBehindCommas() {
        String eight = "law a:0 0,1 1,2 2,3 3,4 4,5 5,6 6,7 7";
        fault(eight + ";", 0, -1);
        fault(eight + ", 8 8;", 2, eight.length() + 2);
        fault(eight + ",-8 8;", 2, eight.length() + 1);
        fault(eight + ",;", 2, eight.length() + 1);
        fault(eight + ",!", 2, eight.length() + 1);
        fault(eight + ", ", 2, eight.length() + 2);
        fault(eight + " 8,", 1, eight.length() + 1);
        String ten = BOTH + "wing w:1 a d 0";
        for (int i = 1; i < 10; i++) {
            ten += ",1 a d " + i;
        }
        fault(ten + ";", 0, -1);
        fault(ten + ",1 a d 0;", 2, ten.length() + 1);
        fault(ten + ",wing", 2, ten.length() + 1);
        fault(ten + " , ", 2, ten.length() + 3);
    }

    private static void roomForTokens() {
        StringBuilder text = new StringBuilder(BOTH + "wing w:1 a d 0 ");
        for (int i = 0; i < 236; i++) {
            text.append("stiff1");
        }
        // 9 + 9 + 7 tokens and 472 of these.
        String most = text.toString();
        fault(most + "deep 50;", 0, -1);
        fault(most + "sweep-1;", 2, most.length() + 7);
        fault(most + "sweep-1!", 1, most.length() + 7);
        fault(most + "sweep-1on", 1, most.length() + 7);
        fault(most + "sweep-1", 1, most.length() + 7);
        fault(most + "sweep-", 1, most.length() + 6);
        fault(most + "deep 50;hinge", 2, most.length() + 8);
        fault(most + "deep 50;,", 1, most.length() + 8);
        fault(most + "deep 50deep", 1, most.length() + 11);
        fault(most + "deep 50deep1!", 2, most.length() + 11);
        fault(most + "deep 50deep!1", 1, most.length() + 11);
    }

    private static void names() {
        fault(LAW_A + "drag a:0 0,1 1;", 3, 19);
        fault(LAW_A + "hinge a 1;", 3, 20);
        fault("hinge h 1;hinge h 1;", 3, 16);
        fault(BOTH + "wing a:1 a d 0;", 3, 34);
        fault("bar b if 1==1;bar b if 1==1;", 3, 18);
        fault("bar b if 1==1;law b:0 0,1 1;", 3, 18);
        fault(BOTH + "wing w:1 b d 0;", 4, 38);
        fault(BOTH + "wing w:1 d d 0;", 4, 38);
        fault(BOTH + "wing w:1 a a 0;", 4, 40);
        fault(BOTH + "wing w:1 w d 0;", 4, 38);
        fault(BOTH + "wing w:1 a d 0 on a;", 4, 47);
        fault(BOTH + "wing w:1 a d 0 on h;hinge h 1;", 4, 47);
        fault("hinge h 1;" + BOTH + "wing w:1 a d 0 on h;", 0, -1);
        fault("wing w:1 a d 0;" + BOTH, 4, 9);
        fault("wing w:1 a d 0;!", 1, 15);
        fault("law a:0 0,1 1;law a:0 0,1 1;law", 1, 31);
        fault(rows("law", 4, ":0 0,1 1;") + "law a:0 0,1 1;law aa:0 0,1 1;law ab:0 0,1 1;law ba:0 0,1 1;", 0, -1);
        // As many names as there can be, the last one told already.
        String all = laws(8) + rows("hinge", 4, " 1;") + "wing i:1 a b 0;wing j:1 a b 0;wing k:1 a b 0;wing l:1 a b 0;";
        for (char bar = 't'; bar < 'z'; bar++) {
            all += "bar " + bar + " if 1==1;";
        }
        fault(all + "bar m if 1==1;bar n if 1==1;", 0, -1);
        fault(all + "bar m if 1==1;bar m if 1==1;", 3, all.length() + 18);
        fault("law a:99 0,1 1;law a:0 0,1 1;", 5, 6);
        fault("law a:0 0,1 1;law a:99 0,1 1;", 3, 18);
    }

    private static void numbers() {
        fault("law a:90 999,91 0;", 5, 13);
        fault("law a:-91 0,0 0;", 5, 7);
        fault("law a:0 1000,1 0;", 5, 8);
        fault("law a:0-1000,1 0;", 5, 8);
        fault("law a:0 0,0 0;", 5, 10);
        fault("law a:0 0,-1 0;", 5, 11);
        fault("law a:-5 0,-6 0;", 5, 12);
        fault("law a:-6 0,-5 0;", 0, -1);
        fault("hinge h 0;", 5, 8);
        fault("hinge h 1;hinge g 30;", 0, -1);
        fault("hinge h 31;", 5, 8);
        strip("0 a d 0", 5, 36);
        strip("9 a d 30", 0, -1);
        strip("10 a d 0", 5, 36);
        strip("1 a d 31", 5, 42);
        strip("1 a d-30", 0, -1);
        strip("1 a d-31", 5, 42);
        strip("1 a d 0 deep 49", 5, 49);
        strip("1 a d 0 deep 50", 0, -1);
        strip("1 a d 0 deep 2000", 0, -1);
        strip("1 a d 0 deep 2001", 5, 49);
        strip("1 a d 0 deep 49 deep 50", 5, 49);
        strip("1 a d 0 stiff 0", 0, -1);
        strip("1 a d 0 stiff 2000", 0, -1);
        strip("1 a d 0 stiff 2001", 5, 50);
        strip("1 a d 0 sweep 9", 0, -1);
        strip("1 a d 0 sweep 10", 5, 50);
        strip("1 a d 0 sweep-9", 0, -1);
        strip("1 a d 0 mass 1 2000 1 2000", 0, -1);
        strip("1 a d 0 mass 0 1 1 1", 5, 49);
        strip("1 a d 0 mass 1 1 1 2001", 5, 55);
    }

    private static void strip(String strip, int fault, int place) {
        fault(BOTH + "wing w:" + strip + ";", fault, place);
    }

    /** A text with a fault leaves nothing to the next one. */
    private static void nothingStays() {
        WingHouse house = new WingHouse();
        Check.read(house, "law x:0 900,1 900;hinge h 9;" + BOTH + "wing v:9 x d 9 on h,9 x d 9 on h "
                + "deep 50 stiff 1 sweep 9 mass 1 1 1 1;bar b if 1==1;wing w:0 x d 0;");
        CHECK.same("fault", house.place(), 148);
        CHECK.same("without it", Check.read(house, "hinge x 5;law k:0 901,1 901;" + DRAG_D + "wing w:1 k d 0;"), 0);
        int[] due = {2, 1, 1, 0};
        for (int what = 3; what < 7; what++) {
            CHECK.same("counts without it " + what, house.count(what), due[what - 3]);
        }
        CHECK.same("strips without it", house.count(10), 1);
        CHECK.same("never", house.strip(0, 0, 0), -1000000);
        house.solve(0, 40, 5, true);
        CHECK.same("G", house.strip(0, 0, 0), 900);
        CHECK.same("deep 200", house.strip(0, 0, 1), 1800 / 200);
        CHECK.same("stiff 0", house.strip(0, 0, 2), 0);
        CHECK.same("sweep 0", house.strip(0, 0, 3), 5 - 9);
        CHECK.same("mass none", house.shakes(0, 10, 5), -1);
        CHECK.same("no bars", house.barred(0), -2);
    }

    private static void promise5() {
        WingHouse house = new WingHouse();
        CHECK.same("5 none read", house.place(), -1);
        Check.read(house, "law a;");
        CHECK.same("5 fault", house.place(), 5);
        CHECK.same("5 again", house.place(), 5);
        Check.read(house, LAW_A);
        CHECK.same("5 without", house.place(), -1);
        Check.read(house, "hinge h 99;");
        CHECK.same("5 a later one", house.place(), 8);
        house.read();
        house.read();
        Check.read(house, "!");
        CHECK.same("5 the latest", house.place(), 0);
        house.read();
        house.read();
        CHECK.same("5 full", house.read(), -2);
        CHECK.same("5 -2 is none", house.place(), -1);
    }

    private static void promise6() {
        WingHouse house = Check.houseOf(LAW_A, BOTH);
        CHECK.same("6 last read", house.count(1), 1);
        CHECK.yes("6 first", house.use(0));
        CHECK.same("6 at hand", house.count(3), 1);
        CHECK.no("6 beyond", house.use(2));
        CHECK.no("6 below", house.use(-1));
        CHECK.no("6 least", house.use(Integer.MIN_VALUE));
        CHECK.no("6 greatest", house.use(Integer.MAX_VALUE));
        CHECK.same("6 stays", house.count(1), 0);
        CHECK.yes("6 second", house.use(1));
        CHECK.same("6 its laws", house.count(3), 2);
    }

    private static void promise7() {
        WingHouse none = new WingHouse();
        CHECK.same("7 no text", none.law(0, 0), -1000000);
        WingHouse house = Check.houseOf("law a:-7-50,0 0,3 10,4-10;drag d:-90 999,90-999;");
        int[][] due = {{-1000, -50}, {-8, -50}, {-7, -50}, {-6, -43}, {-1, -8}, {0, 0}, {1, 3}, {2, 6}, {3, 10},
            {4, -10}, {5, -10}, {1000, -10}};
        for (int[] at : due) {
            CHECK.same("7 at " + at[0], house.law(0, at[0]), at[1]);
        }
        CHECK.same("7 a drag", house.law(1, 1), 999 - 1998 * 91 / 180);
        CHECK.same("7 x above", house.law(0, 1001), -1000000);
        CHECK.same("7 x below", house.law(0, -1001), -1000000);
        CHECK.same("7 no law", house.law(2, 0), -1000000);
        CHECK.same("7 below", house.law(-1, 0), -1000000);
        Check.read(house, LAW_A);
        CHECK.same("7 of the text at hand", house.law(1, 0), -1000000);
    }

    private static void promise8() {
        String hinged = BOTH + "hinge f 20;hinge g 1;wing w:1 a d 0 on g;";
        WingHouse none = new WingHouse();
        CHECK.no("8 no text", none.hinge(0, 0));
        WingHouse house = Check.houseOf(hinged, hinged);
        CHECK.yes("8 least", house.hinge(0, -20));
        CHECK.yes("8 most", house.hinge(0, 20));
        CHECK.no("8 below", house.hinge(0, -21));
        CHECK.no("8 above", house.hinge(0, 21));
        CHECK.no("8 no hinge", house.hinge(2, 0));
        CHECK.no("8 no hinge below", house.hinge(-1, 0));
        house.solve(0, 1, 5, false);
        CHECK.same("8 another's", house.strip(0, 0, 3), 5);
        CHECK.yes("8 its own", house.hinge(1, 1));
        CHECK.no("8 refused", house.hinge(1, 2));
        house.solve(0, 1, 5, false);
        CHECK.same("8 turned", house.strip(0, 0, 3), 6);
        house.use(0);
        house.solve(0, 1, 5, false);
        CHECK.same("8 of each text its own", house.strip(0, 0, 3), 5);
        house.use(1);
        house.solve(0, 1, 5, false);
        CHECK.same("8 it stays", house.strip(0, 0, 3), 6);
        house.hinge(1, -1);
        house.solve(0, 1, 5, false);
        CHECK.same("8 turned back", house.strip(0, 0, 3), 4);
    }

    private static void promise9() {
        WingHouse house = new WingHouse();
        CHECK.yes("9 no text", house.gust(0, -30));
        CHECK.yes("9 last", house.gust(9, 30));
        CHECK.no("9 strip above", house.gust(10, 0));
        CHECK.no("9 strip below", house.gust(-1, 0));
        CHECK.no("9 above", house.gust(0, 31));
        CHECK.no("9 below", house.gust(0, -31));
        Check.read(house, BOTH + "wing w:1 a d 0,1 a d 7;");
        house.solve(0, 1, 5, false);
        CHECK.same("9 any text", house.strip(0, 0, 3), -25);
        CHECK.same("9 none there", house.strip(0, 1, 3), 12);
        house.gust(1, -3);
        house.ground(0, 1, 5, 20);
        CHECK.same("9 over ground", house.strip(0, 1, 3), 9);
        CHECK.same("9 stays", house.strip(0, 0, 3), -25);
    }

    private static void promise34() {
        WingHouse house = new WingHouse();
        for (int what = 3; what < 7; what++) {
            CHECK.same("34 no text " + what, house.count(what), -1);
        }
        CHECK.same("34 no wing", house.count(10), -1);
        Check.read(house, "hinge h 1;");
        Check.read(house, BOTH + "hinge h 1;hinge g 2;hinge f 3;wing w:1 a d 0,1 a d 0;wing x:1 a d 0;"
                + "wing y:1 a d 0,1 a d 0,1 a d 0;wing z:1 a d 0;bar b if 1==1;");
        int[] due = {2, 1, 0, 2, 3, 4, 1, 0, -1, -1, 2, 1, 3, 1, -1};
        for (int what = 0; what < due.length; what++) {
            CHECK.same("34 count " + what, house.count(what), due[what]);
        }
        CHECK.same("34 below", house.count(-1), -1);
        CHECK.same("34 least", house.count(Integer.MIN_VALUE), -1);
        CHECK.same("34 greatest", house.count(Integer.MAX_VALUE), -1);
        house.run(0, 1, 0, 0, 0);
        house.annul(0);
        CHECK.same("34 runs and voids", house.count(2), 2);
        house.feed(0, 0, 0, 0, 0);
        CHECK.same("34 tape", house.count(7), 20);
        house.use(0);
        CHECK.same("34 at hand", house.count(1), 0);
        CHECK.same("34 its hinges", house.count(4), 1);
        CHECK.same("34 its wings", house.count(10), -1);
    }
}
