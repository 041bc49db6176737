import java.util.Random;

/** Texts by the two grammars, many of them spoilt. */
final class RandomTexts {
    private static final String SIGNS = " \n;-0123456789abelort*A\0\u00e9\u00ff";
    private static final String[] TOKENS = {
        ";", "-", " ", "0", "1", "7", "9", "59", "60", "9999", "10000", "99999999999999999999", "down", "row", "set",
        "sort", "less", "equal", "greater", "drop", "delete", "compact", "table", "tables", "x", "A"
    };

    private final Random random;

    RandomTexts(Random random) {
        this.random = random;
    }

    String table() {
        int columns = 1 + random.nextInt(6);
        int span = random.nextInt(3) == 0 ? 10000 : 1 + random.nextInt(12);
        int rows = random.nextInt(4) == 0 ? 55 + random.nextInt(8) : random.nextInt(20);
        StringBuilder text = new StringBuilder(blank() + "table" + blank() + columns + blank() + ";");
        for (int row = 0; row < rows; row++) {
            String next = row(columns, span) + blank() + ";";
            if (text.length() + next.length() <= 680) {
                text.append(next);
            }
        }
        return perhapsSpoilt(text.append(blank()).toString());
    }

    String oneRow(int columns) {
        return perhapsSpoilt(row(columns, random.nextBoolean() ? 10000 : 12) + blank());
    }

    String script(int columns) {
        int commands = random.nextInt(8) == 0 ? 19 + random.nextInt(4) : random.nextInt(8);
        StringBuilder text = new StringBuilder();
        for (int command = 0; command < commands; command++) {
            String next = command(columns) + blank() + ";";
            if (text.length() + next.length() <= 680) {
                text.append(next);
            }
        }
        return perhapsSpoilt(text.append(blank()).toString());
    }

    private String command(int columns) {
        int column = random.nextInt(columns);
        String value = blank() + integer(random.nextBoolean() ? 10000 : 12);
        switch (random.nextInt(10)) {
            case 0:
                return blank() + "row" + row(columns, 12);
            case 1:
                return "set " + column + " " + random.nextInt(random.nextInt(6) == 0 ? 60 : 6) + value;
            case 2:
                return "sort" + blank() + column;
            case 3:
                return blank() + "sort " + column + blank() + "down";
            case 4:
                return "less " + column + " " + value;
            case 5:
                return "equal" + column + " " + value;
            case 6:
                return "greater " + column + "\n" + value;
            case 7:
                return "drop " + random.nextInt(random.nextBoolean() ? 8 : 2);
            case 8:
                return blank() + (random.nextInt(4) == 0 ? "delete" : "compact " + column);
            default:
                return "compact " + column;
        }
    }

    private String row(int columns, int span) {
        StringBuilder text = new StringBuilder();
        for (int column = 0; column < columns; column++) {
            text.append(column > 0 ? " " : "").append(blank()).append(integer(span));
        }
        return text.toString();
    }

    private String integer(int span) {
        String digits = String.valueOf(random.nextInt(span));
        String zeros = random.nextInt(30) == 0 ? "0000000000000" : "";
        return (random.nextInt(3) == 0 ? "-" + blank() : "") + zeros + digits;
    }

    private String blank() {
        switch (random.nextInt(12)) {
            case 0:
                return " ";
            case 1:
                return "\n";
            case 2:
                return " \n ";
            default:
                return "";
        }
    }

    private String perhapsSpoilt(String text) {
        if (random.nextInt(2) == 0) {
            return text;
        }
        int place = random.nextInt(text.length() + 1);
        int behind = Math.min(text.length(), place + 1 + random.nextInt(3));
        switch (random.nextInt(5)) {
            case 0:
                return text.substring(0, place);
            case 1:
                return text.substring(0, place) + text.substring(behind);
            case 2:
                return text.substring(0, place) + SIGNS.charAt(random.nextInt(SIGNS.length())) + text.substring(behind);
            case 3:
                return text.substring(0, place) + " " + TOKENS[random.nextInt(TOKENS.length)] + " " + text.substring(place);
            default:
                return text.substring(0, place) + TOKENS[random.nextInt(TOKENS.length)] + text.substring(behind);
        }
    }
}
