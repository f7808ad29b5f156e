import java.util.ArrayList;
import java.util.List;

/** Part I by its sentences: what a text may be at the most and at the least, and the fault of the first beyond. */
public final class TextEdgesTest {
    private static final Check CHECK = new Check();
    private static final String LAW_A = "law a:0 0,1 1;";
    private static final String BOTH = LAW_A + "drag d:0 0,1 1;";
    private static final String[] WORDS = ("law drag hinge wing bar deep stiff sweep mass if on or and not "
            + "slant lift width twist at speed bend down").split(" ");
    private static final String WHOLE = "law a : - 90 0 , 90 1 ; drag d : 0 0 , 1 - 1 ; hinge h 5 ; "
            + "wing w : 9 a d - 1 on h , 1 a d 0 deep 50 stiff 1 sweep - 1 mass 1 2 3 4 ; "
            + "bar b if not 1 + at * 2 == ( 3 - down ) / 4 and 1 != 2 or 1 < 2 and not 1 <= ( ( 2 ) ) ;";

    public static void main(String[] args) {
        bytesAtMost();
        blanks();
        names();
        words();
        ints();
        signs();
        endsOfTexts();
        noTokens();
        points();
        strips();
        tells();
        tokens();
        parentheses();
        twice();
        noSuchName();
        wrongPoints();
        wrongElsewhere();
        theFirstByPlace();
        toldTwice();
        textsAtMost();
        aFaultChangesNothing();
        lastCall();
        CHECK.end("TextEdgesTest");
    }

    private static void fault(String text, int fault, int place) {
        WingHouse house = new WingHouse();
        CHECK.same("fault of " + text, Check.read(house, text), fault);
        CHECK.same("place of " + text, house.place(), place);
        CHECK.same("texts by " + text, house.count(0), fault == 0 ? 1 : 0);
        CHECK.same("at hand by " + text, house.count(1), fault == 0 ? 0 : -1);
        CHECK.same("tape by " + text, house.count(7), 0);
    }

    private static void taken(String text) {
        fault(text, 0, -1);
    }

    // ---- "A TEXT has 2,000 bytes at most." ----

    private static void bytesAtMost() {
        for (int bytes = 1980; bytes <= 2000; bytes++) {
            taken(" ".repeat(bytes - LAW_A.length()) + LAW_A);
            taken(LAW_A + "\n".repeat(bytes - LAW_A.length()));
            fault("law" + " ".repeat(bytes - 3), 1, bytes);
            fault(" ".repeat(bytes - 1) + "!", 1, bytes - 1);
        }
        WingHouse house = new WingHouse();
        Check.feed(house, " ".repeat(2000 - LAW_A.length()) + LAW_A);
        CHECK.same("one byte less", house.back(1), 1999);
        CHECK.same("without its last byte", house.read(), 1);
        CHECK.same("the text's end", house.place(), 1999);
    }

    // ---- "with blanks (9, 10, 13, 32) between or not" ----

    private static void blanks() {
        for (int b = 0; b < 256; b++) {
            String s = "" + (char) b;
            boolean blank = b == 9 || b == 10 || b == 13 || b == 32;
            boolean letter = b >= 'a' && b <= 'z';
            boolean digit = b >= '0' && b <= '9';
            fault("law" + s + "a:0 0,1 1;", blank ? 0 : 1, blank ? -1 : letter ? 0 : 3);
            boolean fits = b == ',' || b == ';';
            fault("law a:0 0,1 1" + s + ";", blank || digit ? 0 : 1, blank || digit ? -1 : fits ? 14 : 13);
            fault(s + LAW_A, blank ? 0 : 1, blank ? -1 : 0);
            fault(LAW_A + s, blank ? 0 : 1, blank ? -1 : 14);
            fault(s, blank ? 0 : 1, blank ? -1 : 0);
        }
        taken("law a:0 0,1 1;drag d:0-1,1-1;hinge h 1;wing w:1a d 0on h deep50stiff0sweep-0mass1 1 1 1;"
                + "bar b if(1)<=2or 1<2;");
        taken(WHOLE);
        taken(WHOLE.replace(" ", "\t\n\r "));
    }

    // ---- "NAMES (letters a .. z, 8 at most ..)"; "A longer one .. is no TOKEN" ----

    private static void names() {
        for (int letters = 1; letters <= 8; letters++) {
            taken("law " + "a".repeat(letters) + ":0 0,1 1;");
            taken("law " + "z".repeat(letters) + ":0 0,1 1;");
        }
        for (int letters = 9; letters <= 20; letters++) {
            fault("law " + "a".repeat(letters) + ":0 0,1 1;", 1, 4);
        }
        fault("law deepdeepd:0 0,1 1;", 1, 4);
        fault("law aaaaaaaa a:0 0,1 1;", 1, 13);
        for (char c : "`{@[AZ_09".toCharArray()) {
            fault("law " + c + ":0 0,1 1;", 1, 4);
            fault("law a" + c + ":0 0,1 1;", 1, 5);
        }
        // The eighth letter counts, and each ahead of it.
        String text = "";
        for (int i = 0; i < 8; i++) {
            text += "law " + "m".repeat(i) + "n" + "m".repeat(7 - i) + ":0 0,1 1;";
        }
        taken(text);
        taken("law a:0 0,1 1;law aa:0 0,1 1;law aaaaaaaa:0 0,1 1;law aaaaaaa:0 0,1 1;");
        taken("law az:0 0,1 1;law ba:0 0,1 1;law z:0 0,1 1;law aaz:0 0,1 1;");
        fault("law aaaaaaab:0 0,1 1;hinge aaaaaaab 1;", 3, 27);
    }

    // ---- "none of the words in quotes" ----

    private static void words() {
        for (String word : WORDS) {
            fault("law " + word + ":0 0,1 1;", 1, 4);
            fault("hinge " + word + " 1;", 1, 6);
            fault("bar " + word + " if 1==1;", 1, 4);
            fault(BOTH + "wing w:1 " + word + " d 0;", 1, 38);
            taken("law " + word + "x:0 0,1 1;");
            taken("law x" + word + ":0 0,1 1;");
            taken("law " + word.substring(1) + "z:0 0,1 1;");
        }
        for (String variable : "slant lift width twist at speed bend down".split(" ")) {
            taken("bar b if " + variable + "==1;");
            fault("bar b if " + variable + "s==1;", 1, 9);
        }
        for (String word : "text tell point strip sint cond all lit e part unit var none name int".split(" ")) {
            taken("law " + word + ":0 0,1 1;");
        }
    }

    // ---- "INTS (1 to 4 digits)" ----

    private static void ints() {
        for (String digits : "0 9 00 10 99 000 100 999 0000 0001 1000 9999".split(" ")) {
            taken("bar b if " + digits + "<" + digits + ";");
        }
        for (String digits : "00000 00001 10000 99999 123456 12345678901".split(" ")) {
            fault("bar b if " + digits + "<1;", 1, 9);
            fault("bar b if 1<" + digits + ";", 1, 11);
            fault("hinge h " + digits + ";", 1, 8);
        }
        fault("bar b if 9999 9<1;", 1, 14);
        // No fewer than one.
        fault("hinge h;", 1, 7);
        fault("hinge h -1;", 1, 8);
        taken("hinge h 0030;");
        taken("law a:0089 0999,0090 0;");
        fault("hinge h 0031;", 5, 8);
        fault("law a:0 0,0091 0;", 5, 10);
    }

    // ---- "SIGNS ; : , + - * / == != < <= ( )"; the longest that can be ----

    private static void signs() {
        for (String sign : "== != < <=".split(" ")) {
            taken("bar b if 1" + sign + "1;");
            taken("bar b if 1 " + sign + " 1;");
        }
        for (String sign : "= ! > >= <> =< => =! & | % ^ ~ . ? [ ] { } # $ @ \" ' \\ ` _".split(" ")) {
            int at = sign.equals("<>") ? 11 : 10;
            fault("bar b if 1" + sign + "1;", 1, at);
        }
        fault("bar b if 1= =1;", 1, 10);
        fault("bar b if 1! =1;", 1, 10);
        fault("bar b if 1< =1;", 1, 12);
        fault("bar b if 1<<1;", 1, 11);
        fault("bar b if 1<==1;", 1, 12);
        fault("bar b if 1===1;", 1, 12);
        fault("bar b if 1!==1;", 1, 12);
        fault("bar b if 1=", 1, 10);
        fault("bar b if 1!", 1, 10);
        fault("bar b if 1<", 1, 11);
        fault("bar b if 1==", 1, 12);
        for (String sign : "+ - * /".split(" ")) {
            taken("bar b if 1" + sign + "1==1;");
            fault("bar b if " + sign + "1==1;", 1, 9);
            fault("bar b if 1" + sign + sign + "1==1;", 1, 11);
            fault("bar b if 1" + sign + "==1;", 1, 11);
        }
    }

    // ---- "the text's end: its length"; "SYNTAX: a TOKEN, or what is none, with which no text goes on" ----

    private static void endsOfTexts() {
        for (int to = 0; to <= WHOLE.length(); to++) {
            if (to < WHOLE.length() && WHOLE.charAt(to) != ' ') {
                continue;
            }
            String text = WHOLE.substring(0, to);
            boolean whole = text.isEmpty() || text.endsWith(";");
            for (String rest : new String[] {"", " ", "\r\n\t "}) {
                int length = text.length() + rest.length();
                fault(text + rest, whole ? 0 : 1, whole ? -1 : length);
            }
        }
        // The first tokens that stand ahead of them go to the text's end, whatever limits they break.
        fault("hinge h 99", 1, 10);
        fault("law a:99 9999", 1, 13);
        fault("law a:0 0,1 1;law a", 1, 19);
        taken("");
        taken(" ");
    }

    private static void noTokens() {
        String[] tokens = WHOLE.split(" ");
        int place = 0;
        for (int i = 0; i < tokens.length; i++) {
            String ahead = WHOLE.substring(0, place);
            for (String none : new String[] {"!", "=", "A", "12345", "abcdefghi", ".", "\u00ff", "\0"}) {
                fault(ahead + none + WHOLE.substring(place + tokens[i].length()), 1, place);
                fault(ahead + none, 1, place);
            }
            place += tokens[i].length() + 1;
        }
        fault(WHOLE + "!", 1, WHOLE.length());
    }

    // ---- "A LAW: 2 .. 8 POINTS x y"; "a 9th POINT (at what stands behind its comma, whatever that is)" ----

    private static void points() {
        for (String kind : new String[] {"law", "drag"}) {
            String text = kind + " a:0 0";
            fault(text + ";", 1, text.length());
            fault(text, 1, text.length());
            for (int points = 2; points <= 8; points++) {
                text += "," + (points - 1) + " 0";
                taken(text + ";");
            }
            behind(text, 2);
            WingHouse house = Check.houseOf(text + ";");
            CHECK.same("eight points", house.law(0, 7), 0);
        }
        // As many in the next law again.
        String eight = ":0 0,1 1,2 2,3 3,4 4,5 5,6 6,7 7";
        taken("law a" + eight + ";drag d" + eight + ";");
        fault("law a" + eight + ";drag d" + eight + ",8 8;", 2, 77);
    }

    /** Room is told at what stands behind the comma, at the text's end too. */
    private static void behind(String text, int room) {
        for (String next : "9 9;_-9 9;_9_-_;_,_a_law_!_12345_abcdefghi_(".split("_")) {
            fault(text + "," + next, room, text.length() + 1);
            fault(text + " ,\n" + next, room, text.length() + 3);
        }
        fault(text + ",", room, text.length() + 1);
        fault(text + ",  ", room, text.length() + 3);
        // Without a comma it is none.
        fault(text + " 9 9;", 1, text.length() + 1);
        fault(text + "!", 1, text.length());
    }

    // ---- "an 11th STRIP" ----

    private static void strips() {
        String text = BOTH + "wing w:";
        fault(text + ";", 1, text.length());
        fault(text, 1, text.length());
        fault(text + "deep 50;", 1, text.length());
        for (int strips = 1; strips <= 10; strips++) {
            text += (strips > 1 ? "," : "") + "1 a d " + strips;
            taken(text + ";");
            WingHouse house = Check.houseOf(text + ";");
            CHECK.same("strips", house.count(10), strips);
        }
        for (String next : new String[] {"1 a d 0;", "0 a d 0;", "1", "-", ";", ",", "a", "deep", "!", "12345", "("}) {
            fault(text + "," + next, 2, text.length() + 1);
            fault(text + " ,\n" + next, 2, text.length() + 3);
        }
        fault(text + ",", 2, text.length() + 1);
        fault(text + ",  ", 2, text.length() + 3);
        fault(text + " 1 a d 0;", 1, text.length() + 1);
        // As many in the next wing again.
        String ten = text.substring(text.indexOf(':', 30));
        taken(text + ";wing x" + ten + ";wing y" + ten + ";wing z" + ten + ";");
        fault(text + ";wing x" + ten + ",1 a d 0;", 2, text.length() + 7 + ten.length() + 1);
    }

    // ---- "a 9th LAW, a 5th HINGE, a 5th WING, a 9th BAR (at its first TOKEN)"; "law and drag in one row" ----

    /** A whole TELL of a kind. */
    private static String tell(String kind, String name) {
        switch (kind) {
            case "hinge":
                return "hinge " + name + " 1;";
            case "wing":
                return "wing " + name + ":1 a d 0;";
            case "bar":
                return "bar " + name + " if 1==1;";
            default:
                return kind + " " + name + ":0 0,1 1;";
        }
    }

    private static String row(String kind, int n, String names) {
        String text = "";
        for (int i = 0; i < n; i++) {
            text += tell(kind, names + (char) ('a' + i));
        }
        return text;
    }

    /** Every row at its most: laws a and la .. ld, drags d and ra .. rd, and so on. */
    private static String allRows() {
        return LAW_A + row("law", 3, "l") + "drag d:0 0,1 1;" + row("drag", 3, "r") + row("hinge", 4, "h")
                + row("wing", 4, "w") + row("bar", 8, "b");
    }

    private static void tells() {
        int[][] limits = {{8, 3}, {8, 3}, {4, 4}, {4, 5}, {8, 6}};
        String[] kinds = {"law", "drag", "hinge", "wing", "bar"};
        for (int k = 0; k < kinds.length; k++) {
            String ahead = kinds[k].equals("wing") ? BOTH : "";
            for (int n = 0; n <= limits[k][0]; n++) {
                String text = ahead + row(kinds[k], n, "q");
                taken(text);
                CHECK.same("count of " + kinds[k], Check.houseOf(text).count(limits[k][1]), n);
            }
            String most = ahead + row(kinds[k], limits[k][0], "q");
            for (String next : new String[] {"", " ", " z", " !", ";", "!", " qa", "(", " 12345"}) {
                fault(most + kinds[k] + next, 2, most.length());
                fault(most + "\n" + kinds[k] + next, 2, most.length() + 1);
            }
            // A longer word is another one.
            fault(most + kinds[k] + "s z", 1, most.length());
        }
        for (int laws = 0; laws <= 8; laws++) {
            String text = row("law", laws, "l") + row("drag", 8 - laws, "r");
            taken(text);
            fault(text + "law z:0 0,1 1;", 2, text.length());
            fault(text + "drag z:0 0,1 1;", 2, text.length());
        }
        // Each row has its own limit: all of them at their most.
        String all = allRows();
        taken(all);
        for (String kind : kinds) {
            fault(all + kind, 2, all.length());
        }
        fault(all + "deep", 1, all.length());
    }

    // ---- "a 501st TOKEN" ----

    private static void tokens() {
        // 3 tokens, a sum of 2 * n + 1, then 3 more: with n = 244 they are 495, with a not they are 496.
        String five = "bar b if 1" + "+1".repeat(244) + "==1;";
        String four = "bar b if not 1" + "+1".repeat(244) + "==1;";
        taken(five);
        taken(four);
        // A hinge has 4.
        taken(five + "hinge h 1;");
        String most = four + "hinge h 1;";
        taken(most);
        taken(most + " \t\r\n ");
        CHECK.yes("the 499th is read too", Check.houseOf(four + "hinge h 7;").hinge(0, 7));
        for (String next : new String[] {"law", "drag", "hinge", "wing", "bar"}) {
            fault(most + next, 2, most.length());
            fault(most + " " + next + " !", 2, most.length() + 1);
            fault(most + next + " " + next, 2, most.length());
        }
        // One with which no text goes on is SYNTAX: of one place the least.
        for (String next : new String[] {"!", "a", "1", ";", ",", "(", "deep", "12345", "abcdefghi"}) {
            fault(most + next, 1, most.length());
        }
        // Ahead of the 501st SYNTAX is told, and the text's end behind the 500th.
        fault(five + "hinge h 1;law", 1, five.length() + 13);
        fault(four + "hinge h 1", 1, four.length() + 9);
        String last = four.replace("not ", "not not ");
        fault(last + "hinge h 1", 1, last.length() + 9);
        fault(last + "hinge h 1;", 2, last.length() + 9);
        fault(last + "hinge h 1 ;", 2, last.length() + 10);
        fault(last + "hinge h 99;", 2, last.length() + 10);
        fault(last + "hinge h 1!", 1, last.length() + 9);
        fault(last + "hinge h 1 2", 1, last.length() + 10);
        fault(last + "hinge h!", 1, last.length() + 7);
        inCondition();
    }

    /** The 501st within a condition, behind 493 others. */
    private static void inCondition() {
        String ahead = "bar b if " + "not ".repeat(490);
        int at = ahead.length();
        fault(ahead + "1+1+1+1", 1, at + 7);
        for (String next : new String[] {"+", "-", "*", "/", "==", "!=", "<", "<="}) {
            fault(ahead + "1+1+1+1" + next, 2, at + 7);
            fault(ahead + "1+1+1+at" + next + "1==1;", 2, at + 8);
        }
        for (String next : new String[] {"1", "at", ";", "(", ")", "and", "not", "=", "!"}) {
            fault(ahead + "1+1+1+1 " + next, 1, at + 8);
        }
        for (String next : new String[] {"1", "at", "("}) {
            fault(ahead + "(((((1+" + next, 2, at + 7);
            fault(ahead + "not 1==1+1+" + next, 2, at + 11);
        }
        fault(ahead + "((((((1)", 2, at + 7);
        fault(ahead + "((((((1==", 1, at + 7);
        fault(ahead + "((((((1+", 2, at + 7);
        fault(ahead + "not not not 1==1 and not", 2, at + 21);
        fault(ahead + "not not not 1==1 or 1", 2, at + 20);
        fault(ahead + "not not not 1==1 or;", 1, at + 19);
    }

    // ---- "a 7th ( within one another" ----

    private static void parentheses() {
        for (int deep = 1; deep <= 6; deep++) {
            taken("bar b if " + "(".repeat(deep) + "1" + ")".repeat(deep) + "==1;");
            taken("bar b if 1==" + "(".repeat(deep) + "1" + ")".repeat(deep) + ";");
            taken("bar b if not 1+2*" + "(".repeat(deep) + "1" + ")".repeat(deep) + "<1;");
        }
        for (int deep = 7; deep <= 12; deep++) {
            fault("bar b if " + "(".repeat(deep) + "1" + ")".repeat(deep) + "==1;", 2, 15);
            fault("bar b if 1==" + "(".repeat(deep) + "1" + ")".repeat(deep) + ";", 2, 18);
        }
        String six = "((((((1))))))";
        taken("bar b if " + six + "+" + six + "*" + six + "==" + six + " and " + six + "<" + six + ";");
        taken("bar b if " + six + "==1;bar c if " + six + "==1;");
        taken("bar b if (((((" + "(1)+(2)*(3)" + ")))))==1;");
        fault("bar b if (((((" + "(1)+((2))*(3)" + ")))))==1;", 2, 19);
        taken("bar b if (1+(1+(1+(1+(1+(1))))))==1;");
        fault("bar b if (1+(1+(1+(1+(1+(1+(1)))))))==1;", 2, 27);
        fault("bar b if (((((((", 2, 15);
        fault("bar b if (((((((!", 2, 15);
        fault("bar b if ((((((!", 1, 15);
        fault("bar b if ((((((", 1, 15);
        fault("bar b if ((((((1))))))))==1;", 1, 22);
        fault("bar b if ((((((1)))))==1;", 1, 21);
    }

    // ---- "TWICE: a NAME told already (of all kinds)" ----

    private static void twice() {
        String[] kinds = {"law", "drag", "hinge", "wing", "bar"};
        for (String first : kinds) {
            for (String second : kinds) {
                String one = BOTH + tell(first, "twin");
                String two = tell(second, "twin");
                fault(one + two, 3, one.length() + second.length() + 1);
                taken(one + tell(second, "twim"));
                taken(one + tell(second, "twinn"));
                fault(one + tell("law", "e") + two, 3, one.length() + 14 + second.length() + 1);
            }
        }
        // A name in a condition or behind a width is none that is told.
        fault("bar b if 1==1;law a:0 0,1 1;drag b:0 0,1 1;", 3, 33);
    }

    // ---- "NAME: no such law, drag, HINGE told ahead" ----

    private static void noSuchName() {
        String kinds = BOTH + "hinge h 1;bar b if 1==1;wing v:1 a d 0;";
        int at = kinds.length() + "wing w:1 ".length();
        for (String name : new String[] {"d", "h", "b", "v", "w", "z", "aa"}) {
            fault(kinds + "wing w:1 " + name + " d 0;", 4, at);
            fault(kinds + "wing w:1 a d 0,1 " + name + " d 0;", 4, at + 8);
        }
        for (String name : new String[] {"a", "h", "b", "v", "w", "z", "dd"}) {
            fault(kinds + "wing w:1 a " + name + " 0;", 4, at + 2);
        }
        for (String name : new String[] {"a", "d", "b", "v", "w", "z", "hh"}) {
            fault(kinds + "wing w:1 a d 0 on " + name + ";", 4, at + 9);
        }
        taken(kinds + "wing w:1 a d 0 on h;");
        // Told behind it is not told ahead.
        fault(BOTH + "wing w:1 l d 0;law l:0 0,1 1;", 4, 38);
        fault(BOTH + "wing w:1 a r 0;drag r:0 0,1 1;", 4, 40);
        fault(BOTH + "wing w:1 a d 0 on h;hinge h 1;", 4, 47);
        taken(BOTH + "law l:0 0,1 1;wing w:1 l d 0;");
        // The eighth law and the fourth hinge can be named.
        String most = row("law", 7, "l") + row("hinge", 4, "h");
        taken(most + "drag r:0 0,1 1;wing w:1 lg r 0 on hd;");
        fault(most + "drag r:0 0,1 1;wing w:1 lh r 0 on hd;", 4, most.length() + 24);
        fault(most + "drag r:0 0,1 1;wing w:1 lg r 0 on he;", 4, most.length() + 34);
    }

    // ---- "WRONG: at the INT: a POINT's x above 90 or not above the one ahead of it, its y above 999" ----

    private static void wrongPoints() {
        for (String kind : new String[] {"law a:", "drag a:"}) {
            int at = kind.length();
            taken(kind + "-90-999,90 999;");
            taken(kind + "-90 999,-89-999;");
            taken(kind + "89 0,90 0;");
            fault(kind + "-91 0,0 0;", 5, at + 1);
            fault(kind + "- 91 0,0 0;", 5, at + 2);
            fault(kind + "91 0,92 0;", 5, at);
            fault(kind + "0 0,91 0;", 5, at + 4);
            fault(kind + "0 0,9999 0;", 5, at + 4);
            fault(kind + "-9999 0,0 0;", 5, at + 1);
            fault(kind + "0 1000,1 0;", 5, at + 2);
            fault(kind + "0-1000,1 0;", 5, at + 2);
            fault(kind + "0 0,1 1000;", 5, at + 6);
            fault(kind + "0 0,1-9999;", 5, at + 6);
            fault(kind + "5 0,5 0;", 5, at + 4);
            fault(kind + "5 0,4 0;", 5, at + 4);
            fault(kind + "-5 0,-5 0;", 5, at + 6);
            fault(kind + "-5 0,-6 0;", 5, at + 6);
            fault(kind + "0 0,-0 0;", 5, at + 5);
            fault(kind + "5 0,-5 0;", 5, at + 5);
            taken(kind + "-5 0,-4 0;");
            taken(kind + "-1 0,-0 0,1 0;");
            fault(kind + "0 0,2 0,2 0;", 5, at + 8);
            fault(kind + "0 0,2 0,1 0;", 5, at + 8);
            fault(kind + "0 0,1 0,2 0,3 0,4 0,5 0,6 0,6 0;", 5, at + 28);
            taken(kind + "0 0,1 0,2 0,3 0,4 0,5 0,6 0,7 0;");
        }
        // The one ahead of it is of its own law.
        taken("law a:0 0,90 0;law b:-90 0,0 0;");
    }

    // ---- the other numbers ----

    private static void number(String ahead, int low, int high, String rest, boolean signed) {
        int at = ahead.length();
        taken(ahead + low + rest);
        taken(ahead + high + rest);
        for (int wrong : new int[] {high + 1, high + 2, 9999}) {
            fault(ahead + wrong + rest, 5, at);
        }
        for (int wrong = 0; wrong < low; wrong = wrong == 0 ? Math.max(1, low - 2) : wrong + 1) {
            fault(ahead + wrong + rest, 5, at);
        }
        if (signed) {
            taken(ahead + "-" + high + rest);
            taken(ahead + "- 0" + rest);
            fault(ahead + "-" + (high + 1) + rest, 5, at + 1);
            fault(ahead + "- 9999" + rest, 5, at + 2);
        } else {
            fault(ahead + "-" + high + rest, 1, at);
        }
    }

    private static void wrongElsewhere() {
        number("hinge h ", 1, 30, ";", false);
        number(BOTH + "wing w:", 1, 9, " a d 0;", false);
        number(BOTH + "wing w:1 a d 0,", 1, 9, " a d 0;", false);
        number(BOTH + "wing w:1 a d ", 0, 30, ";", true);
        number(BOTH + "wing w:1 a d 0,1 a d ", 0, 30, ",1 a d 0;", true);
        String wing = BOTH + "wing w:1 a d 0 ";
        number(wing + "deep ", 50, 2000, ";", false);
        number(wing + "stiff ", 0, 2000, ";", false);
        number(wing + "sweep ", 0, 9, ";", true);
        number(wing + "mass ", 1, 2000, " 1 1 1;", false);
        number(wing + "mass 1 ", 1, 2000, " 1 1;", false);
        number(wing + "mass 1 1 ", 1, 2000, " 1;", false);
        number(wing + "mass 1 1 1 ", 1, 2000, ";", false);
        number(wing + "deep 2000 deep ", 50, 2000, ";", false);
        // Numbers of a condition have no limit of their own.
        taken("bar b if 9999<=0;");
    }

    // ---- "the first by its place .. of one place the least"; "If there is none, likewise" ----

    private static void theFirstByPlace() {
        // SYNTAX and ROOM come ahead of all others, wherever they stand.
        String faulty = "law a:99 0,1 1;law a:0 0,1 1;";
        fault(faulty, 5, 6);
        fault(faulty + "!", 1, faulty.length());
        fault(faulty + "law", 1, faulty.length() + 3);
        String laws = faulty + row("law", 6, "x");
        fault(laws, 5, 6);
        fault(laws + "law", 2, laws.length());
        fault("hinge h 99;law a:0 0,1 1,2 2,3 3,4 4,5 5,6 6,7 7,8 8;", 2, 49);
        fault("hinge h 99;bar b if(((((((", 2, 25);
        // Of those two the first.
        fault("law a:0 0,1 1,2 2,3 3,4 4,5 5,6 6,7 7,8 8;!", 2, 38);
        fault("law a:0 0,1 1!2 2,3 3,4 4,5 5,6 6,7 7,8 8;", 1, 13);
        fault("bar b if((((((!((", 1, 14);
        // Of the others the first.
        fault("hinge h 0;hinge h 1;", 5, 8);
        fault("hinge h 1;hinge h 0;", 3, 16);
        fault("hinge g 1;hinge h 0;hinge h 1;", 5, 18);
        fault(BOTH + "wing w:0 z d 0;", 5, 36);
        fault(BOTH + "wing w:1 z d 31;", 4, 38);
        fault(BOTH + "wing a:0 z d 31;", 3, 34);
        fault(BOTH + "wing w:1 z y 31 on x deep 0;", 4, 38);
        fault(BOTH + "wing w:1 a y 31 on x deep 0;", 4, 40);
        fault(BOTH + "wing w:1 a d 31 on x deep 0;", 5, 42);
        fault(BOTH + "wing w:1 a d 30 on x deep 0;", 4, 48);
        fault(BOTH + "wing w:1 a d 30 deep 0 sweep 10;", 5, 50);
    }

    // ---- "What is told twice of a WING: the last counts; without: deep 200, stiff 0, sweep 0, mass none" ----

    private static final String FLAT = "law k:0 0,1 0;law f:0 200,1 200;law p:0 201,1 201;drag d:0 0,1 0;";

    /** DOWN, BEND and ANGLE of a strip that lifts 199 (law f) or 200 (law p), at the speed 40. */
    private static void made(String law, String makes, int down, int bend, int angle) {
        WingHouse house = Check.houseOf(FLAT + "wing w:1 " + law + " d 0 " + makes + ";");
        house.solve(0, 40, 0, false);
        CHECK.same("DOWN with " + makes, house.strip(0, 0, 1), down);
        CHECK.same("BEND with " + makes, house.strip(0, 0, 2), bend);
        CHECK.same("ANGLE with " + makes, house.strip(0, 0, 3), angle);
    }

    private static void toldTwice() {
        made("f", "", 1, 0, -1);
        made("p", "", 2, 0, -2);
        made("p", "deep 200", 2, 0, -2);
        made("p", "deep 201", 1, 0, -1);
        made("p", "deep 50", 8, 0, -8);
        made("p", "deep 50 deep 200", 2, 0, -2);
        made("p", "deep 200 stiff 3 deep 50", 8, 200 * 1600 / 3000, -8);
        made("p", "stiff 0", 2, 0, -2);
        made("p", "stiff 0 sweep 9", 2, 0, -2);
        made("p", "stiff 1", 2, 320, -2);
        made("p", "stiff 2000", 2, 0, -2);
        made("p", "stiff 1 stiff 2", 2, 160, -2);
        made("p", "stiff 1 stiff 0", 2, 0, -2);
        made("p", "stiff 32 sweep 0", 2, 10, -2);
        made("p", "stiff 32 sweep 9", 2, 10, -2 - 9);
        made("p", "stiff 32 sweep-9", 2, 10, -2 + 9);
        made("p", "stiff 32 sweep-9 sweep 1", 2, 10, -2 - 1);
        made("p", "sweep 9 stiff 32 sweep 0", 2, 10, -2);
        // Told of one wing it is not told of another.
        WingHouse house = Check.houseOf(FLAT + "wing w:1 p d 0 deep 50 stiff 32 sweep 9 mass 1 2 3 4;wing x:1 p d 0;");
        house.solve(1, 40, 0, false);
        CHECK.same("deep of its own", house.strip(1, 0, 1), 2);
        CHECK.same("stiff of its own", house.strip(1, 0, 2), 0);
        CHECK.same("no mass of its own", house.shakes(1, 40, 0), -1);
        CHECK.yes("mass", house.shakes(0, 40, 0) != -1);
        // The last mass counts: the first one shakes at 40, the second at none.
        String falls = "law n:-90 900,90-900;drag d:0 7,1 7;wing w:9 n d 0 deep 2000 mass ";
        CHECK.same("one mass", Check.houseOf(falls + "300 100 50 2000;").shakes(0, 40, 0), 1);
        CHECK.same("another", Check.houseOf(falls + "300 2000 300 1;").shakes(0, 40, 0), 0);
        CHECK.same("the last", Check.houseOf(falls + "300 100 50 2000 mass 300 2000 300 1;").shakes(0, 40, 0), 0);
        CHECK.same("the last", Check.houseOf(falls + "300 2000 300 1 mass 300 100 50 2000;").shakes(0, 40, 0), 1);
        // A strip without hinge is on none, though hinges turn.
        house = Check.houseOf(FLAT + "hinge h 9;hinge g 9;wing w:1 k d 0,1 k d 0 on g,1 k d 0 on h,1 k d 0 on g;");
        house.hinge(0, 5);
        house.hinge(1, -7);
        house.solve(0, 10, 1, false);
        int[] due = {1, -6, 6, -6};
        for (int i = 0; i < due.length; i++) {
            CHECK.same("on its hinge", house.strip(0, i, 3), due[i]);
        }
    }

    // ---- "TEXTS, 4 at most, are numbered from 0 on as they are read without a FAULT" ----

    private static void textsAtMost() {
        WingHouse house = new WingHouse();
        for (int i = 0; i < 4; i++) {
            CHECK.same("a fault takes no number", Check.read(house, "law"), 1);
            CHECK.same("at hand", house.count(1), i - 1);
            CHECK.same("text " + i, Check.read(house, row("law", i, "l")), 0);
            CHECK.same("texts", house.count(0), i + 1);
            CHECK.same("at hand", house.count(1), i);
        }
        Check.feed(house, LAW_A);
        CHECK.same("a fifth", house.read(), -2);
        CHECK.same("the tape stays", house.count(7), 14);
        CHECK.same("texts", house.count(0), 4);
        CHECK.same("at hand", house.count(1), 3);
        for (int i = 0; i < 4; i++) {
            CHECK.yes("use " + i, house.use(i));
            CHECK.same("its laws", house.count(3), i);
        }
        CHECK.same("a fifth, once more", house.read(), -2);
        CHECK.same("the tape goes on", house.feed(0, 0, 0, 0, 0), 34);
    }

    // ---- "A text with a FAULT changes nothing" ----

    private static WingHouse standing(int texts) {
        WingHouse house = new WingHouse();
        for (int i = 0; i < texts; i++) {
            Check.read(house, "law a:-20-200,20 200;drag d:0 " + i + ",1 9;hinge h 9;"
                    + "wing w:1 a d 0 on h,2 a d 1 mass 1 1 1 1;");
            house.hinge(0, 3 + i);
            house.solve(0, 12, 3, false);
            house.curve(0, 10, 0, 5);
            house.best(0, 10, 5, 1, 0);
            house.run(0, 10, 5, 150, i);
        }
        house.gust(0, 2);
        return house;
    }

    private static void aFaultChangesNothing() {
        String rich = "law x:0 900,1 900;hinge h 9;hinge g 8;" + BOTH + "wing v:9 x d 9 on h,9 x d 9 on g "
                + "deep 50 stiff 1 sweep 9 mass 1 1 1 1;bar b if 1==1;bar c if 1/0==1;";
        List<String> faults = new ArrayList<>(List.of("!", "law", "hinge h 1;", "wing w:1 z d 0;", "hinge k 0;"));
        faults.add(row("law", 6, "l") + "law");
        int[] due = {1, 1, 3, 4, 5, 2};
        for (int texts = 0; texts < 4; texts++) {
            for (int f = 0; f < due.length; f++) {
                WingHouse house = standing(texts);
                CHECK.same("faulty", Check.read(house, rich + faults.get(f)), due[f]);
                Seen.alike(CHECK, "by a fault " + f, Seen.of(house, false), Seen.of(standing(texts), false));
                // Nor is anything of it in the text that is read next.
                WingHouse next = standing(texts);
                String text = "drag d:0 7,1 7;law k:0 101,1 101;wing w:1 k d 0,2 k d 0;wing x:1 k d 0;";
                house = standing(texts);
                Check.read(house, rich + faults.get(f));
                Check.read(house, text);
                Check.read(next, text);
                Seen.alike(CHECK, "behind a fault " + f, Seen.of(house, true), Seen.of(next, true));
            }
        }
        // All rows to their last place, then a text with fewer of each.
        String all = allRows().replace("d 0;", "d 0 on hd deep 50 stiff 9 sweep 9 mass 9 9 9 9;");
        WingHouse house = new WingHouse();
        CHECK.same("all rows", Check.read(house, all + "hinge"), 2);
        CHECK.same("all rows, refused behind", Check.read(house, all + "law"), 2);
        String again = row("hinge", 4, "p") + "law s:0 0,1 0;law t:0 0,1 0;law u:0 0,1 0;law v:0 0,1 0;law x:0 0,1 0;"
                + "law y:0 0,1 0;law a:0 201,1 201;drag d:0 7,1 7;" + row("wing", 4, "z");
        Check.read(house, again);
        WingHouse fresh = Check.houseOf(again);
        Seen.alike(CHECK, "all rows told anew", Seen.of(house, true), Seen.of(fresh, true));
        makesGone();
    }

    /** What a faulty text told of its wings is gone, each by itself. */
    private static void makesGone() {
        String made = FLAT + "wing w:1 p d 0 deep 50 stiff 32 sweep 9 mass 300 100 50 2000;";
        String[] next = {"", "deep 50", "stiff 32", "sweep 9", "deep 50 stiff 32", "stiff 32 sweep 9", "mass 1 2 3 4"};
        for (String makes : next) {
            WingHouse house = new WingHouse();
            CHECK.same("faulty", Check.read(house, made + "!"), 1);
            String text = FLAT + "wing w:1 p d 0 " + makes + ";";
            CHECK.same("read", Check.read(house, text), 0);
            WingHouse fresh = Check.houseOf(text);
            for (int v : new int[] {1, 40}) {
                CHECK.same("rounds", house.solve(0, v, 0, true), fresh.solve(0, v, 0, true));
                for (int what = 0; what < 4; what++) {
                    CHECK.same("behind a fault " + makes, house.strip(0, 0, what), fresh.strip(0, 0, what));
                }
                CHECK.same("mass behind a fault " + makes, house.shakes(0, v, 0), fresh.shakes(0, v, 0));
            }
        }
    }

    // ---- "An object is used for at most 512 calls" ----

    private static void lastCall() {
        WingHouse house = new WingHouse();
        int[] c = Check.chunks("law a:0 0,1 7;")[0];
        for (int call = 1; call <= 255; call++) {
            CHECK.same("feed", house.feed(c[0], c[1], c[2], c[3], c[4]), 20);
            CHECK.same("back", house.back(20), 0);
        }
        CHECK.same("the 511th call", house.read(), 0);
        CHECK.same("the 512th call", house.law(-1, 0), -1000000);
        WingHouse other = new WingHouse();
        for (int call = 1; call <= 509; call++) {
            CHECK.same("gust", other.gust(0, 30) ? 1 : 0, 1);
        }
        CHECK.same("feed", other.feed(c[0], c[1], c[2], c[3], c[4]), 20);
        CHECK.same("read", other.read(), 0);
        CHECK.same("the 512th call", other.law(0, 1), 7);
    }
}
