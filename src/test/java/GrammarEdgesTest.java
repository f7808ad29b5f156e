/**
 * Behind every token of a text each sort of token, alone, in the place of the next one, and ahead of it:
 * with which of them a text goes on is asked of the Twin, which has the document's grammar.
 */
public final class GrammarEdgesTest {
    private static final Check CHECK = new Check();
    private static final String[] SORTS = ("law drag hinge wing bar deep stiff sweep mass if on or and not slant lift "
            + "width twist at speed bend down n a d h 0 1 50 9999 ; : , + - * / == != < <= ( ) = 12345").split(" ");
    private static final String WHOLE = "law a : - 9 0 , 9 1 , 10 2 ; drag d : 0 0 , 1 - 1 ; hinge h 5 ; "
            + "wing w : 9 a d - 1 on h , 1 a d 0 deep 50 stiff 1 sweep - 1 mass 1 2 3 4 deep 60 ; "
            + "bar b if not 1 + at * 2 == ( 3 - ( down ) ) / 4 and 1 != 2 or bend < 2 and not not 1 <= ( 2 ) ; ";

    public static void main(String[] args) {
        String[] tokens = WHOLE.split(" ");
        String ahead = "";
        for (int i = 0; i <= tokens.length; i++) {
            String rest = rest(tokens, i);
            String behind = rest(tokens, i + 1);
            for (String sort : SORTS) {
                ask(ahead + sort);
                ask(ahead + sort + " " + rest);
                ask(ahead + sort + " " + behind);
            }
            ask(ahead);
            ask(ahead + behind);
            ahead += i < tokens.length ? tokens[i] + " " : "";
        }
        CHECK.end("GrammarEdgesTest");
    }

    private static String rest(String[] tokens, int from) {
        StringBuilder text = new StringBuilder();
        for (int i = from; i < tokens.length; i++) {
            text.append(tokens[i]).append(' ');
        }
        return text.toString();
    }

    private static void ask(String text) {
        WingHouse house = new WingHouse();
        Twin twin = new Twin();
        for (int[] c : Check.chunks(text)) {
            house.feed(c[0], c[1], c[2], c[3], c[4]);
            twin.feed(c[0], c[1], c[2], c[3], c[4]);
        }
        int fault = twin.read();
        CHECK.same("fault of " + text, house.read(), fault);
        CHECK.same("place of " + text, house.place(), twin.place());
        for (int what = 3; what < 14; what++) {
            CHECK.same("count " + what + " of " + text, house.count(what), twin.count(what));
        }
    }
}
