import java.util.ArrayList;
import java.util.List;
import java.util.regex.Matcher;
import java.util.regex.Pattern;

/** The two grammars once more: a text is cut into all its tokens first, then taken from the front. */
final class ReferenceParser {
    /** A parse error. */
    @SuppressWarnings("serial")
    static final class Failure extends RuntimeException {
        final int code;
        final int offset;

        Failure(int code, int offset) {
            this.code = code;
            this.offset = offset;
        }
    }

    static final class Table {
        int width;
        final List<int[]> rows = new ArrayList<>();
    }

    static final class Command {
        String word;
        int[] row;
        int column;
        int number;
        int value;
        boolean isDown;
    }

    private static final Pattern TOKEN = Pattern.compile("[a-z]+|[0-9]+|[^ \n]", Pattern.DOTALL);
    private static final List<String> COMMANDS =
            List.of("row", "set", "sort", "less", "equal", "greater", "drop", "delete", "compact");

    private final List<String> tokens = new ArrayList<>();
    private final List<Integer> offsets = new ArrayList<>();
    private int next;

    private ReferenceParser(String text) {
        Matcher matcher = TOKEN.matcher(text);
        while (matcher.find()) {
            tokens.add(matcher.group());
            offsets.add(matcher.start());
        }
        tokens.add("");
        offsets.add(text.length());
    }

    static Table table(String text) {
        ReferenceParser parser = new ReferenceParser(text);
        Table table = new Table();
        parser.take("table");
        table.width = parser.number(1, 6, false);
        parser.take(";");
        while (!parser.is("")) {
            table.rows.add(parser.integers(table.width, table.rows.size() == 60));
            parser.take(";");
        }
        return table;
    }

    static int[] row(String text, int width) {
        ReferenceParser parser = new ReferenceParser(text);
        int[] row = parser.integers(width, false);
        parser.take("");
        return row;
    }

    static List<Command> script(String text, int width) {
        ReferenceParser parser = new ReferenceParser(text);
        List<Command> commands = new ArrayList<>();
        while (!parser.is("")) {
            commands.add(parser.command(width, commands.size() == 20));
            parser.take(";");
        }
        return commands;
    }

    private Failure failure(int code) {
        return new Failure(code, offsets.get(next));
    }

    private boolean is(String token) {
        return tokens.get(next).equals(token);
    }

    private void take(String token) {
        if (!is(token)) {
            throw failure(1);
        }
        next++;
    }

    private int number(int least, int most, boolean isTooMany) {
        if (!tokens.get(next).matches("[0-9]+")) {
            throw failure(1);
        }
        String digits = tokens.get(next).replaceFirst("^0+(?=.)", "");
        if (digits.length() > 4 || Integer.parseInt(digits) < least || Integer.parseInt(digits) > most) {
            throw failure(2);
        }
        if (isTooMany) {
            throw failure(3);
        }
        next++;
        return Integer.parseInt(digits);
    }

    private int integer(boolean isTooMany) {
        if (!is("-")) {
            return number(0, 9999, isTooMany);
        }
        if (isTooMany) {
            throw failure(3);
        }
        next++;
        return -number(0, 9999, false);
    }

    private int[] integers(int width, boolean isTooMany) {
        int[] row = new int[width];
        for (int column = 0; column < width; column++) {
            row[column] = integer(isTooMany);
        }
        return row;
    }

    private Command command(int width, boolean isTooMany) {
        Command command = new Command();
        command.word = tokens.get(next);
        if (!COMMANDS.contains(command.word)) {
            throw failure(1);
        }
        if (isTooMany) {
            throw failure(3);
        }
        next++;
        if (command.word.equals("row")) {
            command.row = integers(width, false);
        } else if (command.word.equals("drop")) {
            command.number = number(0, 7, false);
        } else if (!command.word.equals("delete")) {
            command.column = number(0, width - 1, false);
        }
        if (command.word.equals("set")) {
            command.number = number(0, 59, false);
        }
        if (List.of("set", "less", "equal", "greater").contains(command.word)) {
            command.value = integer(false);
        }
        if (command.word.equals("sort") && is("down")) {
            command.isDown = true;
            next++;
        }
        return command;
    }
}
