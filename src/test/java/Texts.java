import java.util.ArrayList;
import java.util.List;
import java.util.Random;

/** Makes texts by chance (of a told seed): most without a FAULT, some spoilt. */
final class Texts {
    private final Random chance;
    private List<String> row;
    private int laws, drags, hinges, wings, bars;

    Texts(Random chance) {
        this.chance = chance;
    }

    int between(int low, int high) {
        return low + chance.nextInt(high - low + 1);
    }

    boolean once(int of) {
        return chance.nextInt(of) == 0;
    }

    String text() {
        row = new ArrayList<>();
        laws = drags = hinges = wings = bars = 0;
        int lawsToTell = between(1, 3), dragsToTell = between(1, 3);
        for (int i = 0; i < lawsToTell; i++) {
            law("law", "l" + (char) ('a' + laws++));
        }
        for (int i = 0; i < dragsToTell; i++) {
            law("drag", "d" + (char) ('a' + drags++));
        }
        int hingesToTell = between(0, 4);
        for (int i = 0; i < hingesToTell; i++) {
            put("hinge h" + (char) ('a' + hinges++) + " " + (once(40) ? between(0, 40) : between(1, 30)) + " ;");
        }
        int wingsToTell = once(40) ? 5 : between(1, 3);
        for (int i = 0; i < wingsToTell; i++) {
            wing();
        }
        int barsToTell = once(40) ? 9 : between(0, 3);
        for (int i = 0; i < barsToTell; i++) {
            put("bar b" + (char) ('a' + bars++) + " if");
            condition();
            put(";");
        }
        while (once(3)) {
            law(once(2) ? "law" : "drag", "z" + (char) ('a' + between(0, 25)));
        }
        if (once(5)) {
            spoil();
        }
        return joined();
    }

    private void put(String tokens) {
        for (String token : tokens.split(" ")) {
            row.add(token);
        }
    }

    private void signed(int number) {
        if (number < 0 || number == 0 && once(9)) {
            row.add("-");
        }
        row.add("" + Math.abs(number));
    }

    private void law(String sort, String name) {
        put(sort + " " + name + " :");
        int points = once(180) ? 9 : between(2, 8);
        int x = between(-60, 0);
        int y = sort.equals("law") ? -between(0, 200) : between(0, 200);
        int steep = between(1, 40);
        for (int i = 0; i < points; i++) {
            if (i > 0) {
                put(",");
            }
            signed(once(450) ? 91 : Math.min(90, x));
            signed(once(450) ? 1000 : Math.max(-999, Math.min(999, y)));
            x += once(450) ? 0 : between(1, 16);
            y += between(once(2) ? -6 * steep : 0, 6 * steep);
        }
        put(";");
    }

    private String name(String sort, int count) {
        return once(270) ? "none" : sort + (char) ('a' + chance.nextInt(Math.max(1, count)));
    }

    private void wing() {
        put("wing w" + (char) ('a' + wings++) + " :");
        int strips = once(180) ? 11 : once(4) ? 10 : between(1, 6);
        for (int i = 0; i < strips; i++) {
            if (i > 0) {
                put(",");
            }
            put((once(360) ? between(0, 1) * 10 : between(1, 9)) + " " + name("l", laws) + " " + name("d", drags));
            signed(once(600) ? 31 : once(5) ? between(-30, 30) : between(-3, 3));
            if (hinges > 0 && once(3)) {
                put("on " + name("h", hinges));
            }
        }
        while (once(2)) {
            make();
        }
        put(";");
    }

    private void make() {
        switch (between(0, 3)) {
            case 0:
                put("deep " + (once(180) ? between(48, 51) : once(2) ? between(50, 2000) : between(50, 200)));
                break;
            case 1:
                put("stiff " + (once(180) ? 2001 : between(0, 2000)));
                break;
            case 2:
                put("sweep");
                signed(once(180) ? 10 : between(-9, 9));
                break;
            default:
                if (once(2)) {
                    put("mass " + between(1, 200) + " " + between(1, 200) + " " + between(1, 20) + " " + between(1, 2000));
                    break;
                }
                put("mass " + between(1, once(180) ? 2001 : 2000) + " " + between(1, 2000) + " " + between(1, 400) + " "
                        + between(1, 2000));
                break;
        }
    }

    private void condition() {
        do {
            do {
                while (once(4)) {
                    put("not");
                }
                expression(0);
                put(new String[] {"==", "!=", "<", "<="}[between(0, 3)]);
                expression(0);
            } while (once(3) && row.add("and"));
        } while (once(4) && row.add("or"));
    }

    private void expression(int nested) {
        int units = once(2) ? 1 : between(1, 3);
        for (int i = 0; i < units; i++) {
            if (i > 0) {
                put(new String[] {"+", "-", "*", "/", "*"}[between(0, 4)]);
            }
            if (once(nested > 0 ? 3 : 5) && nested < (once(20) ? 7 : 5)) {
                put("(");
                expression(nested + 1);
                put(")");
            } else if (once(2)) {
                row.add("" + (once(3) ? between(0, 9999) : between(0, 9)));
            } else {
                put(new String[] {"slant", "lift", "width", "twist", "at", "speed", "bend", "down"}[between(0, 7)]);
            }
        }
    }

    private static final String[] STRAYS = {"law", "drag", "hinge", "wing", "deep", "stiff", "sweep", "mass", "bar",
        "if", "on", "or", "and", "not", "slant", "at", ";", ":", ",", "+", "-", "*", "/", "==", "!=", "<", "<=", "(",
        ")", "=", "!", ".", "0", "1", "12345", "9999", "la", "ab", "abcdefgh", "abcdefghi", "\0", "\u00ff", "A", "_"};

    private void spoil() {
        int at = chance.nextInt(row.size());
        switch (between(0, 4)) {
            case 0:
                row.remove(at);
                break;
            case 1:
                row.add(at, STRAYS[chance.nextInt(STRAYS.length)]);
                break;
            case 2:
                row.set(at, STRAYS[chance.nextInt(STRAYS.length)]);
                break;
            case 3:
                row.add(at, row.get(chance.nextInt(row.size())));
                break;
            default:
                row = row.subList(0, at);
                break;
        }
    }

    private String joined() {
        StringBuilder text = new StringBuilder();
        String blanks = " \n\t\r";
        for (int i = 0; i < row.size(); i++) {
            String token = row.get(i);
            boolean apart = i > 0 && wordy(row.get(i - 1)) && wordy(token);
            if (apart || once(20)) {
                text.append(once(9) ? blanks.charAt(between(0, 3)) : ' ');
            }
            text.append(token);
        }
        while (once(6)) {
            text.append(' ');
        }
        return text.length() > 2000 ? text.substring(0, 2000) : text.toString();
    }

    private static boolean wordy(String token) {
        return token.length() > 0 && Character.isLetterOrDigit(token.charAt(0));
    }
}
