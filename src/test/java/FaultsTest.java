import java.util.ArrayList;
import java.util.Arrays;
import java.util.List;
import java.util.Random;

/** Promises 3 and 4: what is a HALL, a NIGHT, and which FAULT a text has. */
public final class FaultsTest {
    private static final int TEXTS = 20000;
    private static final String[] WORDS = {"cells", "pillar", "visitor", "on", "goes", "vase", "at", "beam", "oil",
        "guard", "fellow", "shows", "back", "rest", "trim", "fill", "plain", "child", "lady", "thief", "not", "and",
        "or", "day", "left", "far", "hour", "a", "bb", "abcdefgh", "abcdefghi", "0", "1", "3", "4", "5", "6", "8",
        "11", "12", "13", "99", "100", "9999", "0007", "12345", "(", ")", "<", "=", "+", "-", "*", ";", ";", "?",
        "A", "", "_"};

    private static void hall(String text, int kind, int place) {
        LanternHall x = new LanternHall();
        int want = kind == 0 ? 0 : kind + 16 * place;
        Check.same("hall '" + text + "'", Check.tellHall(x, text), want);
        Check.same("model of '" + text + "'", FaultModel.ofHall(text), want);
    }

    private static void night(String text, int kind, int place) {
        LanternHall x = new LanternHall();
        int want = kind == 0 ? 0 : kind + 16 * place;
        Check.same("night '" + text + "'", Check.tellNight(x, text), want);
        Check.same("model of '" + text + "'", FaultModel.ofNight(text), want);
    }

    public static void main(String[] args) {
        tokens();
        hallLines();
        laws();
        nights();
        byChance(args.length > 0 ? Integer.parseInt(args[0]) : TEXTS);
        Check.end("FaultsTest");
    }

    private static void tokens() {
        hall("", 0, 0);
        hall(" \n ", 0, 0);
        hall("cells8;beam1;", 0, 0);
        hall("cells 0008;", 0, 0);
        hall("cells 00008;", 1, 6);
        hall("cells 12345;", 1, 6);
        hall("cells 5guard 1;", 1, 7);
        hall("cellss 5;", 1, 0);
        hall("visitor abcdefgh lady on 0 goes 1;", 0, 0);
        hall("visitor abcdefghi lady on 0 goes 1;", 1, 8);
        hall("visitor ab1 lady on 0 goes 1;", 1, 10);
        hall("Cells 5;", 1, 0);
        hall("cells 5 ; ?", 1, 10);
        hall("cells 5 , ", 1, 8);
        hall(";", 1, 0);
        hall("cells\n5\n;\n", 0, 0);
        hall("cells 5  ", 1, 9);
        hall("7", 1, 0);
        hall("visitor az lady on 0 goes 1;vase z at 1;vase za at 2;", 0, 0);
        hall("vase z at 1;vase a at 1;vase az at 1;vase z", 3, 42);
        hall("vase `a at 1;", 1, 5);
        hall("vase {a at 1;", 1, 5);
        hall("oil /1;", 1, 4);
        hall("oil :1;", 1, 4);
        LanternHall x = new LanternHall();
        Check.same("a TAPE", Check.tellHall(x, "cells 2; oil 77"), 1 + 16 * 15);
        Check.same("nothing of the last TAPE", Check.tellHall(x, "cells 2; oil 7"), 1 + 16 * 14);
        Check.same("a TAPE", Check.tellHall(x, "cells 2; oily"), 1 + 16 * 9);
        Check.same("nothing of the last TAPE", Check.tellHall(x, "cells 2; oil"), 1 + 16 * 12);
        Check.same("a TAPE", Check.tellHall(x, "cells 2; "), 0);
        Check.same("nothing of the last TAPE", Check.tellHall(x, " ".repeat(995) + "oil 5"), 1 + 16 * 1000);
        Check.same("nothing of the last TAPE", Check.tellHall(x, " ".repeat(998) + "xx"), 1 + 16 * 998);
    }

    private static void hallLines() {
        hall("cells 2;", 0, 0);
        hall("cells 12;", 0, 0);
        hall("cells 1;", 4, 6);
        hall("cells 13;", 4, 6);
        hall("cells x;", 1, 6);
        hall("cells 5; cells 5;", 3, 9);
        hall("pillar 0; pillar 11;", 0, 0);
        hall("pillar 11; pillar 11;", 3, 18);
        hall("pillar 11; pillar 12;", 4, 18);
        hall("beam 1;", 0, 0);
        hall("beam 0;", 4, 5);
        hall("beam 6;", 4, 5);
        hall("guard 0;", 0, 0);
        hall("guard 12;", 4, 6);
        hall("fellow 12;", 4, 7);
        hall("beam 5; beam", 3, 8);
        hall("oil 0;", 0, 0);
        hall("oil 99; oil", 3, 8);
        hall("oil 100;", 4, 4);
        hall("guard 11; guard", 3, 10);
        hall("fellow 0 1 2 3 4 5 6 11;", 0, 0);
        hall("fellow 0 1 2 3 4 5 6 11 1;", 5, 24);
        hall("fellow 0 1 2 3 4 5 6 11 12;", 4, 24);
        hall("fellow;", 1, 6);
        hall("fellow 1; fellow", 3, 10);
        hall("visitor a plain on 3 goes 0;visitor b child on 0 goes 0 1 2 3 4 5 6 7;", 0, 0);
        hall("visitor a plain on 4 goes 0;", 4, 19);
        hall("visitor a plain at 3 goes 0;", 1, 16);
        hall("visitor a not on 3 goes 0;", 1, 10);
        hall("visitor a fill on 3 goes 0;", 1, 10);
        hall("visitor a b on 3 goes 0;", 1, 10);
        hall("visitor a plain on 3 goes 12;", 4, 26);
        hall("visitor a plain on 3 goes 0 1 2 3 4 5 6 7 8;", 5, 42);
        hall("visitor on plain on 3 goes 0;", 1, 8);
        hall("visitor lady lady on 3 goes 0;", 1, 8);
        hall("visitor not lady on 3 goes 0;", 1, 8);
        hall("visitor day lady on 3 goes 0;vase hour at 1;vase far at 2;vase left at 3;", 0, 0);
        hall("vase a at 1;vase a at 2;", 3, 17);
        hall("vase a at 1;visitor a lady", 3, 20);
        hall("vase day at 1;vase day", 3, 19);
        hall("vase a on 1;", 1, 7);
        hall("vase a at 12;", 4, 10);
        String vases = "vase a at 1;vase b at 1;vase c at 1;vase d at 1;";
        hall(vases, 0, 0);
        hall(vases + "vase a at 1;", 5, 48);
        StringBuilder six = new StringBuilder();
        for (char name = 'a'; name <= 'f'; name++) {
            six.append("visitor ").append(name).append(" lady on 1 goes 2;");
        }
        hall(six.toString(), 0, 0);
        hall(six + "visitor", 5, six.length());
        hall(six + "on", 1, six.length());
        hall("on;", 1, 0);
        hall("rest;", 1, 0);
    }

    private static void laws() {
        for (String e : new String[] {"0", "9999", "day", "left + far - hour * 2", "not not not not 1",
            "((((1))))", "not (not (1 < 2)) and 1", "1 and 2 or 3 < 4", "1 < 2 and 3 = 4", "(1 < 2) < 3"}) {
            hall("shows " + e + ";", 0, 0);
        }
        hall("shows;", 1, 5);
        hall("shows 1 2;", 1, 8);
        hall("shows 10000;", 1, 6);
        hall("shows 1 < 2 = 3;", 1, 12);
        hall("shows 1 = 2 < 3;", 1, 12);
        hall("shows (1;", 1, 8);
        hall("shows 1);", 1, 7);
        hall("shows a;", 1, 6);
        hall("shows and 1;", 1, 6);
        hall("shows 1 not 1;", 1, 8);
        hall("shows -1;", 1, 6);
        hall("shows 1 +;", 1, 9);
        hall("shows ();", 1, 7);
        hall("shows not not not not not 1;", 5, 26);
        hall("shows not not not not not not 1;", 5, 26);
        hall("shows not not not not not ;", 1, 26);
        hall("shows (((((1", 5, 11);
        hall("shows ((((((", 5, 11);
        hall("shows (not (not (day", 5, 17);
        hall("shows (not (not day", 1, 19);
        hall("shows (not (not (not", 5, 17);
        hall("shows (((((", 1, 11);
        hall("shows 1; shows", 3, 9);
        hall("shows ((((1)))) + ((((not 1", 5, 26);
    }

    private static void nights() {
        night("", 0, 0);
        night("on;back;rest;trim 0;trim 3;fill 1;fill 99;", 0, 0);
        night("on", 1, 2);
        night("on on", 1, 3);
        night("trim 4;", 4, 5);
        night("trim on;", 1, 5);
        night("fill 0;", 4, 5);
        night("fill 100;", 4, 5);
        night("goes;", 1, 0);
        night("rest 1;", 1, 5);
        String forty = "on;".repeat(40);
        night(forty, 0, 0);
        night(forty + "fill", 5, 120);
        night(forty + "cells", 1, 120);
        night(forty + ";", 1, 120);
    }

    /** Texts that are right but for a token or two. */
    private static void byChance(int texts) {
        LanternHall x = new LanternHall();
        for (int i = 0; i < texts; i++) {
            Random r = new Random(90000 + i);
            // What an earlier TAPE held must not be read again, so an object reads some of them.
            if (i % 10 == 0) {
                x = new LanternHall();
            }
            boolean isNight = r.nextInt(5) == 0;
            List<String> tokens = isNight ? nightTokens(r) : Model.random(r).tell(r);
            int wrong = r.nextInt(4);
            for (int k = 0; k < wrong && !tokens.isEmpty(); k++) {
                spoil(tokens, r);
            }
            String text = Model.spaced(tokens, r);
            if (text.length() > 1000) {
                continue;
            }
            if (isNight) {
                Check.same("night '" + text + "'", Check.tellNight(x, text), FaultModel.ofNight(text));
            } else {
                Check.same("hall '" + text + "'", Check.tellHall(x, text), FaultModel.ofHall(text));
            }
            Check.same("TAPE behind '" + text + "'", x.count(15), 0);
        }
    }

    private static List<String> nightTokens(Random r) {
        List<String> tokens = new ArrayList<>();
        int lines = r.nextInt(44);
        for (int i = 0; i < lines; i++) {
            int k = r.nextInt(5);
            tokens.addAll(k < 3 ? Arrays.asList(k == 0 ? "on" : k == 1 ? "back" : "rest", ";")
                    : Arrays.asList(k == 3 ? "trim" : "fill", "" + (k == 3 ? r.nextInt(4) : 1 + r.nextInt(99)), ";"));
        }
        return tokens;
    }

    private static void spoil(List<String> tokens, Random r) {
        int at = r.nextInt(tokens.size());
        String other = WORDS[r.nextInt(WORDS.length)];
        switch (r.nextInt(5)) {
            case 0: tokens.remove(at); break;
            case 1: tokens.add(at, other); break;
            case 2: tokens.add(at, tokens.get(r.nextInt(tokens.size()))); break;
            case 3: tokens.set(at, tokens.get(r.nextInt(tokens.size()))); break;
            default: tokens.set(at, other);
        }
    }
}
