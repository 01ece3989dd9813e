import java.util.ArrayList;
import java.util.HashSet;
import java.util.List;
import java.util.Set;
import java.util.regex.Matcher;
import java.util.regex.Pattern;

/** The document's FAULTS once more: the text is cut by a pattern, and the first wrong token ends the reading. */
final class FaultModel {
    private static final Pattern TOKEN = Pattern.compile("[ \n]*(?:([a-z]+)|([0-9]+)|([()<=+*;-])|(.)|$)",
            Pattern.DOTALL);
    private static final Set<String> NO_NAMES = Set.of("cells", "pillar", "visitor", "on", "goes", "vase", "at",
            "beam", "oil", "guard", "fellow", "shows", "back", "rest", "trim", "fill", "plain", "child", "lady",
            "thief", "not", "and", "or");

    private static final class Fault extends RuntimeException {
        private static final long serialVersionUID = 1L;
        final int value;

        Fault(int value) {
            this.value = value;
        }
    }

    private final List<String> tokens = new ArrayList<>();
    private final List<Integer> places = new ArrayList<>();
    private int next = 0;

    private FaultModel(String text) {
        Matcher m = TOKEN.matcher(text);
        int from = 0;
        while (from < text.length() && m.find(from) && m.end() > m.start()) {
            for (int group = 1; group <= 4; group++) {
                if (m.group(group) != null) {
                    boolean none = group == 4 || group == 1 && m.group(1).length() > 8
                            || group == 2 && m.group(2).length() > 4;
                    tokens.add(none ? "?" : m.group(group));
                    places.add(m.start(group));
                }
            }
            from = m.end();
        }
        tokens.add("END");
        places.add(text.length());
    }

    static int ofHall(String text) {
        try {
            new FaultModel(text).hall();
            return 0;
        } catch (Fault f) {
            return f.value;
        }
    }

    static int ofNight(String text) {
        try {
            new FaultModel(text).night();
            return 0;
        } catch (Fault f) {
            return f.value;
        }
    }

    private String token() {
        return tokens.get(next);
    }

    private void need(boolean so, int kind) {
        if (!so) {
            throw new Fault(kind + 16 * places.get(next));
        }
    }

    private boolean is(String... some) {
        return List.of(some).contains(token());
    }

    private void take(String... some) {
        need(is(some), 1);
        next++;
    }

    private boolean isNumber() {
        return Character.isDigit(token().charAt(0));
    }

    private int number(int least, int most) {
        need(isNumber(), 1);
        int n = Integer.parseInt(token());
        need(n >= least && n <= most, 4);
        return n;
    }

    private void hall() {
        Set<String> told = new HashSet<>();
        Set<String> names = new HashSet<>();
        int visitors = 0;
        int vases = 0;
        while (!is("END")) {
            String word = token();
            need(is("cells", "pillar", "visitor", "vase", "beam", "oil", "guard", "fellow", "shows"), 1);
            if (!is("pillar", "visitor", "vase")) {
                need(told.add(word), 3);
            }
            need(!is("visitor") || ++visitors <= 6, 5);
            need(!is("vase") || ++vases <= 4, 5);
            next++;
            switch (word) {
                case "cells": number(2, 12); next++; break;
                case "beam": number(1, 5); next++; break;
                case "oil": number(0, 99); next++; break;
                case "guard": number(0, 11); next++; break;
                case "pillar": need(told.add("pillar " + number(0, 11)), 3); next++; break;
                case "visitor":
                    name(names);
                    take("plain", "child", "lady", "thief");
                    take("on");
                    number(0, 3);
                    next++;
                    take("goes");
                    cells();
                    break;
                case "vase":
                    name(names);
                    take("at");
                    number(0, 11);
                    next++;
                    break;
                case "fellow": cells(); break;
                default: e(0);
            }
            take(";");
        }
    }

    private void name(Set<String> names) {
        need(Character.isLowerCase(token().charAt(0)) && !NO_NAMES.contains(token()), 1);
        need(names.add(token()), 3);
        next++;
    }

    private void cells() {
        int told = 0;
        do {
            number(0, 11);
            need(++told <= 8, 5);
            next++;
        } while (isNumber());
    }

    private void e(int depth) {
        test(depth);
        while (is("and", "or")) {
            next++;
            test(depth);
        }
    }

    private void test(int depth) {
        sum(depth);
        if (is("<", "=")) {
            next++;
            sum(depth);
        }
    }

    private void sum(int depth) {
        product(depth);
        while (is("+", "-")) {
            next++;
            product(depth);
        }
    }

    private void product(int depth) {
        part(depth);
        while (is("*")) {
            next++;
            part(depth);
        }
    }

    private void part(int depth) {
        need(isNumber() || is("not", "(", "day", "left", "far", "hour"), 1);
        need(depth < 5, 5);
        String word = token();
        next++;
        if (word.equals("not")) {
            part(depth + 1);
        } else if (word.equals("(")) {
            e(depth + 1);
            take(")");
        }
    }

    private void night() {
        int lines = 0;
        while (!is("END")) {
            need(is("on", "back", "rest", "trim", "fill"), 1);
            need(++lines <= 40, 5);
            String word = token();
            next++;
            if (word.equals("trim")) {
                number(0, 3);
                next++;
            } else if (word.equals("fill")) {
                number(1, 99);
                next++;
            }
            take(";");
        }
    }
}
