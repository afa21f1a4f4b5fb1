import java.util.ArrayList;
import java.util.List;
import java.util.Random;

/** Writes texts at random: right ones, and ones with something changed. */
final class Writer {
    private final Random random;

    Writer(Random random) {
        this.random = random;
    }

    private int from(int lowest, int highest) {
        return lowest + random.nextInt(highest - lowest + 1);
    }

    /** Small prices make like splits common; large ones fill the ranges. */
    String right(int mostGoods) {
        List<String> lines = new ArrayList<>();
        boolean tight = random.nextInt(3) > 0;
        int carriers = from(1, 3);
        for (int c = 0; c < carriers; c++) {
            addCarrier(lines, tight);
        }
        int goods = random.nextInt(4) == 0 ? from(0, mostGoods) : mostGoods;
        for (int g = 0; g < goods; g++) {
            lines.add("good " + from(1, tight ? 12 : 40) + " " + from(1, tight ? 60 : 300) + " " + from(1, tight ? 30 : 999) + ";");
        }
        lines.add("order " + from(0, 3) + " " + from(0, 99) + ";");
        return String.join("", lines);
    }

    private void addCarrier(List<String> lines, boolean tight) {
        lines.add("carrier " + from(tight ? 10 : 1, tight ? 40 : 99) + " " + from(tight ? 60 : 1, tight ? 300 : 999) + " "
            + from(1, tight ? 20 : 99) + " " + from(0, random.nextBoolean() ? 0 : 99) + " " + from(1, tight ? 40 : 999) + " "
            + from(0, tight ? 4 : 999) + ";");
        int upto = 0;
        int breaks = from(1, 5);
        for (int i = 0; i < breaks && upto < 99; i++) {
            upto = from(upto + 1, Math.min(99, upto + 30));
            int dearest = tight ? 6 : 999;
            lines.add("break " + upto + " " + from(0, dearest) + " " + from(0, dearest) + " " + from(0, dearest) + ";");
        }
        int day = 0;
        int zones = from(1, 3);
        for (int i = 0; i < zones && day < 99; i++) {
            day = i == 0 ? 0 : from(day + 1, Math.min(99, day + 60));
            lines.add("zones " + day + " " + zone() + " " + zone() + " " + zone() + " " + zone() + ";");
        }
    }

    private int zone() {
        return random.nextInt(8) == 0 ? 3 : from(0, 2);
    }

    String changed(String text) {
        StringBuilder s = new StringBuilder(text);
        int changes = from(1, 2);
        for (int i = 0; i < changes && s.length() > 1; i++) {
            change(s);
        }
        if (s.length() > 740) {
            s.setLength(740);
        }
        return s.toString();
    }

    private void change(StringBuilder s) {
        int at = random.nextInt(s.length());
        switch (random.nextInt(9)) {
            case 0:
                s.deleteCharAt(at);
                break;
            case 1:
                s.insert(at, (char) random.nextInt(256));
                break;
            case 2:
                s.setCharAt(at, (char) random.nextInt(256));
                break;
            case 3:
                s.insert(at, "0123456789;ab \n".charAt(random.nextInt(15)));
                break;
            case 4:
                s.setLength(at);
                break;
            case 5:
                widen(s, at);
                break;
            case 6:
                repeatLine(s, at);
                break;
            case 7:
                s.append(new String[] {" ", ";", "good 1 1 1;", "order 0 0;", "\n\n"}[random.nextInt(5)]);
                break;
            default:
                changeNumber(s, at);
                break;
        }
    }

    /** Blanks put in ahead of a token may bring the text around its 700 bytes. */
    private void widen(StringBuilder s, int near) {
        int at = Math.max(0, s.indexOf(";", near));
        int goal = random.nextBoolean() ? 700 : 740;
        int count = Math.max(0, goal + from(-12, 12) - s.length());
        s.insert(at, (random.nextBoolean() ? " " : "\n").repeat(count));
    }

    private static void repeatLine(StringBuilder s, int near) {
        int from = s.lastIndexOf(";", near) + 1;
        int to = s.indexOf(";", from) + 1;
        if (to > from) {
            s.insert(to, s.substring(from, to));
        }
    }

    private void changeNumber(StringBuilder s, int near) {
        int from = near;
        while (from < s.length() && !Character.isDigit(s.charAt(from))) {
            from++;
        }
        int to = from;
        while (to < s.length() && Character.isDigit(s.charAt(to))) {
            to++;
        }
        if (to > from) {
            s.replace(from, to, new String[] {"0", "00", "4", "99", "100", "999", "1000", "007"}[random.nextInt(8)]);
        }
    }
}
