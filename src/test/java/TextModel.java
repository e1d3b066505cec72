import java.util.ArrayList;
import java.util.HashMap;
import java.util.HashSet;
import java.util.List;
import java.util.Map;
import java.util.Set;
import java.util.TreeSet;
import java.util.regex.Matcher;
import java.util.regex.Pattern;

/** The faults of a text, made apart from the class: the form by a pattern of tokens, the others line by line. */
final class TextModel {
    record Token(int at, String text) {
    }

    private static final Pattern TOKEN = Pattern.compile("[a-z]+|[0-9]+|[^ ]", Pattern.DOTALL);
    private static final String NAME = "[nwarskx]";
    private static final String LINE = "(?:Cn0w0|D" + NAME + "a0,0k|[PS]" + NAME + "a0,0|R" + NAME + "r0s0|K0,0,0|L(?:N|" + NAME
        + "(?:," + NAME + ")*))";
    private static final Pattern FORM = Pattern.compile(LINE + "(?:;" + LINE + ")*");
    private static final Map<String, String> SIGNS = new HashMap<>();

    static {
        String[] words = {"cake C", "candle D", "place P", "spot S", "person R", "shaky K", "left L", "none N", "near n", "wax w",
            "at a", "reach r", "spread s", "plain k", "tall k", "again k", "trick k"};
        for (String word : words) {
            SIGNS.put(word.split(" ")[0], word.split(" ")[1]);
        }
    }

    int fault = 0;
    int where = -1;
    final Model model = new Model();
    private final List<Token> tokens = new ArrayList<>();
    private int formAt;
    private boolean hasCake;

    TextModel(String text) {
        Matcher m = TOKEN.matcher(text);
        StringBuilder signs = new StringBuilder();
        formAt = -1;
        while (m.find()) {
            tokens.add(new Token(m.start(), m.group()));
            signs.append(signOf(m.group()));
            if (formAt < 0 && !goesOn(signs)) {
                formAt = m.start();
            }
        }
        if (formAt < 0 && !FORM.matcher(signs).matches()) {
            formAt = text.length();
        }
        if (formAt >= 0) {
            found(1, formAt);
        }
        readLines();
        if (fault == 0 && (!hasCake || model.candles.isEmpty() || model.places.isEmpty() || model.people.isEmpty())) {
            found(6, text.length());
        }
    }

    private static String signOf(String token) {
        char first = token.charAt(0);
        if (first >= 'a' && first <= 'z') {
            return token.length() > 8 ? "!" : SIGNS.getOrDefault(token, "x");
        }
        if (first >= '0' && first <= '9') {
            return token.length() > 3 ? "!" : "0";
        }
        return first == ';' || first == ',' ? token : "!";
    }

    private static boolean goesOn(CharSequence signs) {
        Matcher m = FORM.matcher(signs);
        return m.matches() || m.hitEnd();
    }

    private void found(int number, int place) {
        if (fault == 0 || place < where || place == where && number < fault) {
            fault = number;
            where = place;
        }
    }

    private void readLines() {
        Map<String, Integer> candleNames = new HashMap<>();
        Set<String> names = new HashSet<>();
        List<Token> line = new ArrayList<>();
        tokens.add(new Token(Integer.MAX_VALUE, ";"));
        for (Token t : tokens) {
            boolean inForm = formAt < 0 || t.at < formAt;
            if (t.text.equals(";") || !inForm) {
                if (!line.isEmpty()) {
                    readLine(line, candleNames, names);
                }
                line.clear();
                if (!inForm) {
                    return;
                }
            } else {
                line.add(t);
            }
        }
    }

    private Integer whole(List<Token> line, int i, int least, int most) {
        if (i >= line.size()) {
            return null;
        }
        int value = Integer.parseInt(line.get(i).text);
        if (value < least || value > most) {
            found(4, line.get(i).at);
        }
        return value;
    }

    private void readLine(List<Token> line, Map<String, Integer> candleNames, Set<String> names) {
        String sort = line.get(0).text;
        int at = line.get(0).at;
        switch (sort) {
            case "cake" -> {
                if (hasCake) {
                    found(3, at);
                }
                hasCake = true;
                Integer near = whole(line, 2, 0, 20);
                Integer wax = whole(line, 4, 1, 9);
                model.near = near == null ? 0 : near;
                model.wax = wax == null ? 0 : wax;
            }
            case "shaky" -> readShaky(line);
            case "left" -> readLeft(line, candleNames);
            default -> readNamed(line, candleNames, names);
        }
    }

    private void readShaky(List<Token> line) {
        if (model.shaky != null) {
            found(3, line.get(0).at);
        }
        model.shaky = new int[3];
        Integer[] w = {whole(line, 1, 0, 9), whole(line, 3, 0, 9), whole(line, 5, 0, 9)};
        if (w[2] != null) {
            for (int i = 0; i < 3; i++) {
                model.shaky[i] = w[i];
            }
            if (w[0] + w[1] + w[2] == 0) {
                found(4, line.get(5).at);
            }
        }
    }

    private void readLeft(List<Token> line, Map<String, Integer> candleNames) {
        if (model.left != null) {
            found(3, line.get(0).at);
        }
        model.left = new TreeSet<>();
        for (int i = 1; i < line.size(); i += 2) {
            String name = line.get(i).text;
            if (name.equals("none")) {
                return;
            }
            if (!candleNames.containsKey(name)) {
                found(2, line.get(i).at);
            } else if (!model.left.add(candleNames.get(name))) {
                found(3, line.get(i).at);
            }
        }
    }

    private void readNamed(List<Token> line, Map<String, Integer> candleNames, Set<String> names) {
        String sort = line.get(0).text;
        int many = switch (sort) {
            case "candle" -> model.candles.size() - 10;
            case "place" -> model.places.size() - 5;
            case "spot" -> model.spots.size() - 4;
            default -> model.people.size() - 4;
        };
        if (many >= 0) {
            found(5, line.get(0).at);
        }
        if (line.size() > 1 && !names.add(line.get(1).text)) {
            found(3, line.get(1).at);
        }
        boolean person = sort.equals("person");
        Integer first = whole(line, 3, person ? 1 : 0, person ? 30 : 20);
        Integer second = whole(line, 5, 0, person ? 30 : 20);
        if (second == null) {
            return;
        }
        switch (sort) {
            case "candle" -> {
                if (line.size() > 6) {
                    candleNames.put(line.get(1).text, model.candles.size());
                    model.candles.add(new Model.Candle(first, second, line.get(6).text));
                    if (model.candles.stream().filter(c -> c.kind().equals("trick")).count() > 3) {
                        found(5, line.get(6).at);
                    }
                }
            }
            case "place" -> model.places.add(new Model.Point(first, second));
            case "spot" -> model.spots.add(new Model.Point(first, second));
            default -> model.people.add(new Model.Person(first, second));
        }
    }
}
