import java.util.ArrayList;
import java.util.List;

/** The Terms, as far as they tell how a TAPE is read: each sentence at its boundary, and one beyond it. */
final class TapeSentences {
    private static final String[] WORDS = {"cells", "pillar", "visitor", "on", "goes", "vase", "at", "beam", "oil", "guard",
        "fellow", "shows", "back", "rest", "trim", "fill", "plain", "child", "lady", "thief", "not", "and", "or"};
    private static final String[] MEASURES = {"cells 5;", "beam 5;", "oil 5;", "guard 5;", "fellow 5;", "shows 5;"};
    /** 9999 * 9999 * 21 + 9999 * 4790 + 8416 is the greatest int, 2147483647. */
    private static final String GREATEST = "9999*9999*21+9999*4790+8416";

    private TapeSentences() {
    }

    static void all() {
        tapeHolds();
        tapeIsTaken();
        tokens();
        words();
        numbers();
        signs();
        hallLines();
        measures();
        pillars();
        visitors();
        vases();
        fellows();
        onceEach();
        cellsBeyond();
        nightLines();
        names();
        lawsFromTheLeft();
        tests();
        sums();
        parts();
        within();
        facts();
        truth();
        faults();
        faultsOne();
        faultsThree();
        faultsFour();
        faultsFive();
        hallFromThenOn();
        nightFromThenOn();
    }

    private static void sentence(String text) {
        Check.sentence(text);
    }

    private static void same(String what, long got, long want) {
        Check.same(what, got, want);
    }

    private static void same(String what, boolean got, boolean want) {
        Check.same(what, got, want);
    }

    private static void isHall(String text) {
        same("hall '" + text + "'", Check.tellHall(new LanternHall(), text), 0);
    }

    private static void noHall(String text, int kind, int place) {
        same("hall '" + text + "'", Check.tellHall(new LanternHall(), text), kind + 16 * place);
    }

    private static void isNight(String text) {
        same("night '" + text + "'", Check.tellNight(new LanternHall(), text), 0);
    }

    private static void noNight(String text, int kind, int place) {
        same("night '" + text + "'", Check.tellNight(new LanternHall(), text), kind + 16 * place);
    }

    private static void counted(String text, int what, int want) {
        same("'" + text + "' count " + what, Check.hall(text).count(what), want);
    }

    /** The day shown in his own CELL, by the day 0, an oil of 30, at hour 0. */
    private static void shows(String law, int want) {
        same("shows " + law, Check.hall("shows " + law + ";").shown(0), want);
    }

    private static void tapeHolds() {
        sentence("The TAPE has at most 1,000 signs,");
        LanternHall x = new LanternHall();
        same("998", Check.feed(x, " ".repeat(998)), 998);
        same("999", Check.feed(x, ";"), 999);
        same("1,000", Check.feed(x, " "), 1000);
        same("1,001", Check.feed(x, " "), 1000);
        same("24 more", Check.feed(x, "0123456789abcdefghijklmn"), 1000);
        same("count", x.count(15), 1000);
        same("the first 1,000 are kept", x.hall(), 1 + 16 * 998);
        same("the last sign is the 1,000th", Check.tellHall(x, " ".repeat(992) + "cells 5;"), 0);
        same("five", x.count(0), 5);
        same("the last sign is the 1,001st", Check.tellHall(x, " ".repeat(993) + "cells 6;"), 1 + 16 * 1000);
        same("five", x.count(0), 5);
        sentence("10 and 32 .. 126;");
        for (int sign = 0; sign < 256; sign++) {
            LanternHall y = new LanternHall();
            same("sign " + sign, y.feed((long) sign << 56, 0, 0), sign == 10 || sign >= 32 && sign <= 126 ? 1 : 0);
        }
    }

    private static void tapeIsTaken() {
        sentence("what reads it takes it: it is empty then.");
        LanternHall x = new LanternHall();
        same("a HALL", Check.tellHall(x, "cells 5;"), 0);
        same("empty", x.count(15), 0);
        same("no HALL", Check.tellHall(x, "cells 6; ?"), 1 + 16 * 9);
        same("empty", x.count(15), 0);
        same("a NIGHT", Check.tellNight(x, "on;"), 0);
        same("empty", x.count(15), 0);
        same("no NIGHT", Check.tellNight(x, "on; ?"), 1 + 16 * 4);
        same("empty", x.count(15), 0);
        same("an empty one is a HALL of nothing", x.hall(), 0);
        same("eight", x.count(0), 8);
        same("a full one", Check.feed(x, "?".repeat(1000)), 1000);
        same("is taken", x.hall(), 1);
        same("signs come from 0 on", Check.feed(x, "oil 7;"), 6);
        same("nothing is left of it", x.hall(), 0);
        same("seven", x.count(7), 7);
    }

    private static void tokens() {
        sentence("TOKENS, each as long as can be,");
        counted("oil 12;", 7, 12);
        noHall("oil 1 2;", 1, 6);
        isNight("on;on;");
        noNight("onon;", 1, 0);
        noNight("on on;", 1, 3);
        noHall("visitor alady on 0 goes 1;", 1, 14);
        sentence("blanks (10, 32) between where one likes:");
        isHall("cells5;pillar3;visitor a lady on0goes1 2;vase v at3;shows(day+1)*2<not 0;");
        isHall("  cells\n\n5 \n ;\n");
        isHall("\n");
        isHall(" ");
        noHall("cel ls 5;", 1, 0);
        noHall("cel\nls 5;", 1, 0);
        noHall("shows 1 0;", 1, 8);
        noHall("shows 1\n0;", 1, 8);
    }

    private static void words() {
        sentence("WORDS (letters a .. z, 8 at most),");
        isHall("visitor abcdefgh lady on 0 goes 1;");
        noHall("visitor abcdefghi lady on 0 goes 1;", 1, 8);
        isHall("vase a at 1; vase z at 1; vase zzzzzzzz at 1; vase azazazaz at 1;");
        noHall("vase zzzzzzzzz at 1;", 1, 5);
        noHall("vase " + "z".repeat(60) + " at 1;", 1, 5);
        noHall("vase `a at 1;", 1, 5);
        noHall("vase {a at 1;", 1, 5);
        noHall("vase a` at 1;", 1, 6);
        noHall("vase a{ at 1;", 1, 6);
        noHall("vase A at 1;", 1, 5);
        noHall("vase aZ at 1;", 1, 6);
        noHall("vase a1 at 1;", 1, 6);
        sentence("All else (a longer WORD or NUMBER, too, at its first sign) is none.");
        noHall("pillarss 1;", 1, 0);
        noHall(" visitors 1;", 1, 1);
        noHall(" visitorss 1;", 1, 1);
        noHall("oil 12345;", 1, 4);
        noHall("shows 1+ 99999;", 1, 9);
    }

    private static void numbers() {
        sentence("NUMBERS (1 to 4 digits;");
        counted("oil 7;", 7, 7);
        counted("oil 07;", 7, 7);
        counted("oil 007;", 7, 7);
        counted("oil 0007;", 7, 7);
        noHall("oil 00007;", 1, 4);
        counted("oil 0000;", 7, 0);
        noHall("oil 00000;", 1, 4);
        noHall("oil 9999;", 4, 4);
        noHall("oil 10000;", 1, 4);
        noHall("oil ;", 1, 4);
        noHall("oil /;", 1, 4);
        noHall("oil :;", 1, 4);
        noHall("oil 1/;", 1, 5);
        noHall("oil 1:;", 1, 5);
        isHall("shows 9999;");
        noHall("shows 10000;", 1, 6);
        noHall("shows 4294967297;", 1, 6);
        noHall("oil 4294967297;", 1, 4);
        counted("cells 09;", 0, 9);
        sentence("a letter may stand right behind),");
        isHall("visitor a lady on 0goes 1;");
        isHall("shows 1and 1or 0;");
        isHall("shows 9999and 1;");
        noHall("shows 99999and 1;", 1, 6);
        noHall("oil 5x;", 1, 5);
    }

    private static void signs() {
        sentence("the signs ( ) < = + - * ;");
        isHall("shows ( 1 ) ;");
        isHall("shows 1 < 1 ;");
        isHall("shows 1 = 1 ;");
        isHall("shows 1 + 1 ;");
        isHall("shows 1 - 1 ;");
        isHall("shows 1 * 1 ;");
        sentence("All else (a longer WORD or NUMBER, too, at its first sign) is none.");
        for (char sign = 33; sign <= 126; sign++) {
            if ("()<=+-*;".indexOf(sign) < 0 && !Character.isLetterOrDigit(sign)) {
                noHall("shows 1 " + sign + " 1;", 1, 8);
                noHall("cells 5;" + sign, 1, 8);
                noNight("on" + sign, 1, 2);
            }
        }
        for (char sign = 'A'; sign <= 'Z'; sign++) {
            noHall("cells 5;" + sign, 1, 8);
        }
    }

    private static void hallLines() {
        sentence("HALL: any number of   cells N ;   pillar N ;   visitor NAME KIND on N goes N N .. ;   vase NAME at N ;"
                + "   beam N ;   oil N ;   guard N ;   fellow N N .. ;   shows E ;");
        isHall("");
        isHall("cells 5;");
        isHall("shows day;fellow 1;guard 1;oil 1;beam 1;vase v at 1;visitor a lady on 1 goes 1;pillar 1;cells 9;");
        StringBuilder most = new StringBuilder();
        for (int i = 0; i < 12; i++) {
            most.append("pillar ").append(i).append(';');
        }
        for (char name = 'a'; name < 'g'; name++) {
            most.append("visitor ").append(name).append(" lady on 0 goes 0;");
        }
        for (char name = 'g'; name < 'k'; name++) {
            most.append("vase ").append(name).append(" at 0;");
        }
        isHall(most.append(String.join("", MEASURES)).toString());
        noHall(";", 1, 0);
        noHall("cells 5;;", 1, 8);
        noHall("cells 5", 1, 7);
        noHall("cells ;", 1, 6);
        noHall("pillar ;", 1, 7);
        noHall("pillar 1 2;", 1, 9);
        noHall("visitor lady on 0 goes 1;", 1, 8);
        noHall("visitor a on 0 goes 1;", 1, 10);
        noHall("visitor a lady 0 goes 1;", 1, 15);
        noHall("visitor a lady on goes 1;", 1, 18);
        noHall("visitor a lady on 0 1;", 1, 20);
        noHall("visitor a lady on 0 goes;", 1, 24);
        noHall("visitor a lady on 0 goes 1 2", 1, 28);
        noHall("vase at 1;", 1, 5);
        noHall("vase a 1;", 1, 7);
        noHall("vase a at;", 1, 9);
        noHall("vase a at 1 1;", 1, 12);
        noHall("beam;", 1, 4);
        noHall("beam 1 1;", 1, 7);
        noHall("oil 1 1;", 1, 6);
        noHall("guard 1 1;", 1, 8);
        noHall("guard;", 1, 5);
        noHall("fellow;", 1, 6);
        noHall("fellow 1", 1, 8);
        noHall("shows ;", 1, 6);
        noHall("shows 1", 1, 7);
        noHall("on;", 1, 0);
        noHall("trim 1;", 1, 0);
        noHall("lady;", 1, 0);
        noHall("day;", 1, 0);
        noHall("5;", 1, 0);
    }

    private static void measures() {
        sentence("cells: 2 to 12 (8).");
        noHall("cells 0;", 4, 6);
        noHall("cells 1;", 4, 6);
        counted("cells 2;", 0, 2);
        counted("cells 3;", 0, 3);
        counted("cells 11;", 0, 11);
        counted("cells 12;", 0, 12);
        noHall("cells 13;", 4, 6);
        noHall("cells 9999;", 4, 6);
        counted("", 0, 8);
        sentence("beam 1 to 5 (2).");
        noHall("beam 0;", 4, 5);
        counted("beam 1;", 3, 1);
        counted("beam 5;", 3, 5);
        noHall("beam 6;", 4, 5);
        counted("", 3, 2);
        sentence("oil 0 to 99 (30).");
        counted("oil 0;", 7, 0);
        counted("oil 1;", 7, 1);
        counted("oil 98;", 7, 98);
        counted("oil 99;", 7, 99);
        noHall("oil 100;", 4, 4);
        counted("", 7, 30);
        sentence("guard: a CELL 0 to 11 (0).");
        counted("cells 12; guard 0;", 4, 0);
        counted("cells 12; guard 1;", 4, 1);
        counted("cells 12; guard 10;", 4, 10);
        counted("cells 12; guard 11;", 4, 11);
        noHall("cells 12; guard 12;", 4, 16);
        counted("", 4, 0);
    }

    private static void pillars() {
        sentence("pillar: a CELL 0 to 11, each once.");
        counted("cells 12;", 11, 0);
        counted("cells 12; pillar 0;", 11, 1);
        counted("cells 12; pillar 11;", 11, 1 << 11);
        noHall("cells 12; pillar 12;", 4, 17);
        StringBuilder twelve = new StringBuilder("cells 12;");
        for (int i = 0; i < 12; i++) {
            twelve.append("pillar ").append(i).append(';');
        }
        counted(twelve.toString(), 11, 4095);
        for (int i = 0; i < 12; i++) {
            noHall(twelve + "pillar " + i, 3, twelve.length() + 7);
        }
        noHall("cells 5; pillar 9; pillar 9;", 3, 26);
        isHall("pillar 1; pillar 10;");
    }

    /** VISITORS a, b, .. of kind lady, day 0, in CELL 1. */
    private static String ladies(int number) {
        StringBuilder text = new StringBuilder();
        for (int i = 0; i < number; i++) {
            text.append("visitor ").append((char) ('a' + i)).append(" lady on 0 goes 1;");
        }
        return text.toString();
    }

    private static void visitors() {
        sentence("visitor: 6 at most, numbered as told;");
        for (int number = 0; number <= 6; number++) {
            counted(ladies(number), 1, number);
        }
        noHall(ladies(6) + "visitor g lady on 0 goes 1;", 5, ladies(6).length());
        LanternHall x = Check.hall("visitor z plain on 3 goes 5; vase y at 1; visitor a thief on 1 goes 2;");
        same("the first", x.visitor(0, 1), 3);
        same("the next", x.visitor(1, 1), 1);
        same("none", x.visitor(2, 1), -2);
        sentence("KIND: plain, child, lady, thief;");
        String[] kinds = {"plain", "child", "lady", "thief"};
        for (int kind = 0; kind < 4; kind++) {
            LanternHall y = Check.hall("visitor a " + kinds[kind] + " on 0 goes 1;");
            same(kinds[kind], y.visitor(0, 0), kind);
        }
        for (String word : WORDS) {
            if (!word.equals("plain") && !word.equals("child") && !word.equals("lady") && !word.equals("thief")) {
                noHall("visitor a " + word + " on 0 goes 1;", 1, 10);
            }
        }
        noHall("visitor a day on 0 goes 1;", 1, 10);
        noHall("visitor a man on 0 goes 1;", 1, 10);
        noHall("visitor a 2 on 0 goes 1;", 1, 10);
        sentence("a day 0 to 3;");
        for (int day = 0; day <= 3; day++) {
            same("day " + day, Check.hall("visitor a lady on " + day + " goes 1;").visitor(0, 1), day);
        }
        noHall("visitor a lady on 4 goes 1;", 4, 18);
        noHall("visitor a lady on 9999 goes 1;", 4, 18);
        hoursTold();
    }

    private static void hoursTold() {
        sentence("a CELL 0 to 11 for each hour from 0 on, 1 to 8 of them.");
        String goes = "cells 12; visitor a plain on 0 goes";
        noHall(goes + ";", 1, goes.length());
        for (int told = 1; told <= 8; told++) {
            LanternHall x = Check.hall(goes + " 11 0 1 2 3 4 5 6".substring(0, 1 + 2 * told) + ";");
            same(told + " told: hour 0", x.at(0, 0), 11);
            for (int hour = 1; hour < 8; hour++) {
                same(told + " told: hour " + hour, x.at(0, hour), hour < told ? hour - 1 : -1);
            }
        }
        noHall(goes + " 1 2 3 4 5 6 7 8 9;", 5, goes.length() + 17);
        noHall(goes + " 12;", 4, goes.length() + 1);
        noHall(goes + " 1 2 3 4 5 6 7 12;", 4, goes.length() + 15);
        same("the eighth", Check.hall(goes + " 1 2 3 4 5 6 7 11;").at(0, 7), 11);
    }

    private static void vases() {
        sentence("vase: 4 at most, numbered as told;");
        String text = "";
        for (int number = 0; number <= 4; number++) {
            counted(text, 2, number);
            if (number < 4) {
                text += "vase " + (char) ('a' + number) + " at " + (7 - number) + ";";
            }
        }
        LanternHall x = Check.hall(text);
        for (int vase = 0; vase < 4; vase++) {
            same("vase " + vase, x.vase(vase, 0), 7 - vase);
        }
        noHall(text + "vase e at 1;", 5, text.length());
        isHall(text + ladies(0) + "visitor f lady on 0 goes 1;");
        sentence("at a CELL 0 to 11.");
        same("0", Check.hall("cells 12; vase a at 0;").vase(0, 0), 0);
        same("11", Check.hall("cells 12; vase a at 11;").vase(0, 0), 11);
        noHall("cells 12; vase a at 12;", 4, 20);
    }

    private static void fellows() {
        sentence("fellow: CELLS 0 to 11, 1 to 8 of them, of one hour behind another, again and again (none).");
        same("none", Check.hall("cells 12;").fellow(0), -1);
        noHall("fellow ;", 1, 7);
        for (int told = 1; told <= 8; told++) {
            LanternHall x = Check.hall("cells 12; fellow" + " 11 0 1 2 3 4 5 6".substring(0, 1 + 2 * told) + ";");
            for (int hours = 0; hours <= 40; hours++) {
                int of = hours % told;
                same(told + " told: in " + hours, x.fellow(hours), of == 0 ? 11 : of - 1);
            }
        }
        noHall("fellow 1 2 3 4 5 6 7 8 9;", 5, 23);
        noHall("fellow 12;", 4, 7);
        noHall("fellow 1 2 3 4 5 6 7 12;", 4, 21);
        isHall("fellow 1 2 3 4 5 6 7 11;");
        isHall("fellow 1 1;");
    }

    private static void onceEach() {
        sentence("cells, beam, oil, guard, fellow, shows: once each.");
        for (String line : MEASURES) {
            isHall(line);
            noHall(line + line, 3, line.length());
            noHall(line + "pillar 1;" + line, 3, line.length() + 9);
            for (String other : MEASURES) {
                if (!other.equals(line)) {
                    isHall(line + other);
                }
            }
        }
        LanternHall x = new LanternHall();
        same("a HALL", Check.tellHall(x, String.join("", MEASURES)), 0);
        same("the next HALL tells them anew", Check.tellHall(x, String.join("", MEASURES)), 0);
        same("no HALL", Check.tellHall(x, "cells 5;oil 5;?"), 1 + 16 * 14);
        same("behind a FAULT too", Check.tellHall(x, String.join("", MEASURES)), 0);
    }

    private static void cellsBeyond() {
        sentence("(CELLS beyond those told are not there: pillars, vases, visitors there are not;");
        counted("cells 5; pillar 4;", 11, 1 << 4);
        counted("cells 5; pillar 5;", 11, 0);
        counted("pillar 4; pillar 5; pillar 11; cells 5;", 11, 1 << 4);
        counted("pillar 7; pillar 8;", 11, 1 << 7);
        same("vase in the last", Check.hall("cells 5; vase a at 4;").vase(0, 0), 4);
        same("vase beyond", Check.hall("cells 5; vase a at 5;").vase(0, 0), -1);
        same("vase beyond, cells told later", Check.hall("vase a at 5; cells 5;").vase(0, 0), -1);
        same("vase within, cells told later", Check.hall("vase a at 9; cells 10;").vase(0, 0), 9);
        counted("cells 5; vase a at 5;", 2, 1);
        same("visitor in the last", Check.hall("cells 5; visitor a lady on 0 goes 4;").at(0, 0), 4);
        same("visitor beyond", Check.hall("cells 5; visitor a lady on 0 goes 5;").at(0, 0), -1);
        same("visitor beyond 8", Check.hall("visitor a lady on 0 goes 8;").at(0, 0), -1);
        same("visitor in the eighth", Check.hall("visitor a lady on 0 goes 7;").at(0, 0), 7);
        counted("cells 5; visitor a lady on 0 goes 5;", 1, 1);
        LanternHall x = Check.hall("visitor a lady on 0 goes 1 5 11 1 5; cells 5;");
        int[] places = {1, -1, -1, 1, -1, -1, -1, -1};
        for (int hour = 0; hour < 8; hour++) {
            same("in and out: hour " + hour, x.at(0, hour), places[hour]);
        }
        same("no light beyond", Check.hall("cells 5; guard 4; beam 5;").light(), 31);
        sentence("a guard beyond begins at the last CELL.)");
        counted("cells 5; guard 4;", 4, 4);
        counted("cells 5; guard 5;", 4, 4);
        counted("guard 11; cells 5;", 4, 4);
        counted("guard 7;", 4, 7);
        counted("guard 8;", 4, 7);
        counted("cells 2; guard 11;", 4, 1);
        counted("cells 5; guard 9; pillar 4;", 4, 4);
    }

    private static void nightLines() {
        sentence("NIGHT: any number of   on ;   back ;   rest ;   trim N ;   fill N ;");
        isNight("");
        isNight(" \n");
        isNight("on;back;rest;trim 1;fill 1;");
        noNight(";", 1, 0);
        noNight("on", 1, 2);
        noNight("back back;", 1, 5);
        noNight("rest 1;", 1, 5);
        noNight("on 1;", 1, 3);
        noNight("trim;", 1, 4);
        noNight("trim on;", 1, 5);
        noNight("fill;", 1, 4);
        noNight("trim 1", 1, 6);
        noNight("trim 1 1;", 1, 7);
        noNight("1;", 1, 0);
        for (String word : WORDS) {
            if ("on back rest trim fill".indexOf(word) < 0) {
                noNight(word + ";", 1, 0);
            }
        }
        sentence("(a day 0 to 3; 1 to 99),");
        isNight("trim 0;");
        isNight("trim 3;");
        noNight("trim 4;", 4, 5);
        noNight("trim 9999;", 4, 5);
        noNight("trim 10000;", 1, 5);
        noNight("fill 0;", 4, 5);
        isNight("fill 1;");
        isNight("fill 99;");
        noNight("fill 100;", 4, 5);
        sentence("40 lines at most.");
        String[] lines = {"on;", "back;", "rest;", "trim 1;", "fill 1;"};
        for (String line : lines) {
            LanternHall x = new LanternHall();
            same("39", Check.tellNight(x, line.repeat(39)), 0);
            same("39", x.count(12), 39);
            same("40", Check.tellNight(x, line.repeat(40)), 0);
            same("40", x.count(12), 40);
            same("41", Check.tellNight(x, line.repeat(41)), 5 + 16 * 40 * line.length());
            same("40", x.count(12), 40);
        }
    }

    private static void names() {
        sentence("A NAME is another WORD than cells, pillar, visitor, on, goes, vase, at, beam, oil, guard, fellow, shows,"
                + " back, rest, trim, fill, the KINDS, not, and, or;");
        for (String word : WORDS) {
            noHall("visitor " + word + " lady on 0 goes 1;", 1, 8);
            noHall("vase " + word + " at 1;", 1, 5);
            if (word.length() < 8) {
                isHall("visitor " + word + "s lady on 0 goes 1;");
                isHall("vase x" + word + " at 1;");
            }
            if (word.length() > 3) {
                isHall("vase " + word.substring(1) + " at 1;");
                isHall("vase " + word.substring(0, word.length() - 1) + " at 1;");
            }
        }
        isHall("visitor day lady on 0 goes 1; vase left at 1; vase far at 1; vase hour at 1;");
        noHall("vase 5 at 1;", 1, 5);
        noHall("vase ; at 1;", 1, 5);
        sentence("no two (VISITORS, VASES) are alike.");
        noHall("visitor a lady on 0 goes 1; visitor a lady on 0 goes 1;", 3, 36);
        noHall("vase a at 1; vase a at 1;", 3, 18);
        noHall("visitor a lady on 0 goes 1; vase a at 1;", 3, 33);
        noHall("vase a at 1; visitor a lady on 0 goes 1;", 3, 21);
        noHall("vase abcdefgh at 1; vase abcdefgh at 1;", 3, 25);
        isHall("vase abcdefgh at 1; vase abcdefgi at 1; vase bbcdefgh at 1; vase abcdefg at 1;");
        isHall("vase a at 1; vase aa at 1; vase aaa at 1; vase b at 1;");
        noHall(ladies(6) + "vase f at 1;", 3, ladies(6).length() + 5);
        String vases = "vase g at 1;vase h at 1;vase i at 1;vase j at 1;";
        noHall(vases + ladies(5) + "visitor j", 3, vases.length() + ladies(5).length() + 8);
        alike();
        LanternHall x = Check.hall("vase a at 1;");
        same("NAMES of another HALL are free", Check.tellHall(x, "visitor a lady on 0 goes 1;"), 0);
    }

    /** Of each two of these one letter is another one, stands elsewhere, or is one more. */
    private static void alike() {
        String[] near = {"a", "b", "p", "q", "z", "ab", "ba", "aa", "az", "za", "ap", "pa", "bp", "qa", "aab", "aba", "baa",
            "zzz", "azz", "aaaaaaaa", "aaaaaaab", "baaaaaaa", "aaaabaaa", "paaaaaaa", "aaaaaaap", "zzzzzzzz", "zzzzzzz"};
        List<String> names = new ArrayList<>(List.of(near));
        for (char letter = 'a'; letter <= 'z'; letter++) {
            names.add(letter + "x");
            names.add("x" + letter + "y");
        }
        for (String first : names) {
            for (String second : names) {
                if (first.equals(second)) {
                    noHall("vase " + first + " at 1;vase " + second, 3, first.length() + 16);
                } else {
                    isHall("vase " + first + " at 1;vase " + second + " at 1;");
                }
            }
        }
    }

    private static void lawsFromTheLeft() {
        sentence("E: TEST { and TEST or or TEST }, from the left;");
        shows("1 or 1 and 0", 0);
        shows("1 or (1 and 0)", 1);
        shows("0 and 0 or 1", 1);
        shows("0 and (0 or 1)", 0);
        shows("1 and 1 and 1", 1);
        shows("1 and 1 and 0", 0);
        shows("0 or 0 or 0", 0);
        shows("0 or 0 or 1", 1);
        noHall("shows and 1;", 1, 6);
        noHall("shows or 1;", 1, 6);
        noHall("shows 1 and;", 1, 11);
        noHall("shows 1 or;", 1, 10);
        noHall("shows 1 and or 1;", 1, 12);
        noHall("shows 1 1;", 1, 8);
        // As long as a TAPE can be, nearly: 998 signs.
        shows("1" + " or 0".repeat(198), 1);
    }

    private static void tests() {
        sentence("TEST: SUM, or SUM < SUM, or SUM = SUM;");
        shows("2", 2);
        shows("1 < 2", 1);
        shows("2 < 2", 0);
        shows("3 < 2", 0);
        shows("1 = 2", 0);
        shows("2 = 2", 1);
        shows("3 = 2", 0);
        shows("1 + 1 < 1 + 2", 1);
        shows("1 < 2 and 2 < 3", 1);
        shows("1 < 2 and 3 < 3", 0);
        shows("(1 < 2) < 2", 1);
        shows("0 - 1 < 0", 1);
        shows("0 < 0 - 1", 0);
        noHall("shows 1 < 2 < 3;", 1, 12);
        noHall("shows 1 = 2 = 3;", 1, 12);
        noHall("shows 1 < 2 = 3;", 1, 12);
        noHall("shows 1 = 2 < 3;", 1, 12);
        noHall("shows < 3;", 1, 6);
        noHall("shows 1 <;", 1, 9);
        noHall("shows 1 < = 1;", 1, 10);
        noHall("shows 1 == 1;", 1, 9);
    }

    private static void sums() {
        sentence("SUM: PRODUCT { + or - PRODUCT };");
        shows("1 + 1", 2);
        shows("3 - 1", 2);
        shows("3 - 1 - 1", 1);
        shows("3 - (1 - 1)", 3);
        shows("3 - 1 + 1", 3);
        shows("3 - 2 * 1", 1);
        noHall("shows + 1;", 1, 6);
        noHall("shows - 1;", 1, 6);
        noHall("shows 1 - - 1;", 1, 10);
        noHall("shows 1 +;", 1, 9);
        // The most tokens that a law can have: a TAPE of 1,000 signs.
        shows("1" + "+1-1".repeat(248), 1);
        shows("3" + "-1+1".repeat(248), 3);
        sentence("PRODUCT: PART { * PART };");
        shows("1 * 2", 2);
        shows("1 + 1 * 2", 3);
        shows("(1 + 1) * 1", 2);
        shows("1 * 2 * 1 * 1", 2);
        shows("2 * 0", 0);
        noHall("shows * 1;", 1, 6);
        noHall("shows 1 * ;", 1, 10);
        noHall("shows 1 * * 1;", 1, 10);
        shows("2" + "*1".repeat(496), 2);
        LanternHall x = new LanternHall();
        for (int want = 3; want >= 0; want--) {
            same("a long one behind another", Check.tellHall(x, "shows " + want + "+1-1".repeat(248) + ";"), 0);
            same("shows", x.shown(0), want);
        }
    }

    private static void parts() {
        sentence("PART: a NUMBER, a fact, not PART, ( E );");
        shows("0", 0);
        shows("3", 3);
        shows("not 3", 0);
        shows("not 0", 1);
        shows("not 0 + 1", 2);
        shows("not (0 + 1)", 0);
        shows("not 0 * 2", 2);
        LanternHall later = Check.hall("shows 0;");
        later.trim(2);
        later.step(0);
        later.step(0);
        same("0 is 0 at all hours", later.shown(0), 0);
        shows("not 1 = 0", 1);
        shows("not not 3", 1);
        shows("(2)", 2);
        shows("(1 or 0)", 1);
        shows("(1 = 1)", 1);
        noHall("shows not;", 1, 9);
        noHall("shows not and 1;", 1, 10);
        noHall("shows 1 not 1;", 1, 8);
        noHall("shows ();", 1, 7);
        noHall("shows (1;", 1, 8);
        noHall("shows (1", 1, 8);
        noHall("shows 1);", 1, 7);
        noHall("shows );", 1, 6);
        noHall("shows (1));", 1, 9);
        noHall("shows (1 2);", 1, 9);
        noHall("shows x;", 1, 6);
        noHall("shows lady;", 1, 6);
        noHall("shows days;", 1, 6);
    }

    private static void within() {
        sentence("no PART lies within 5 of not and ( ).");
        shows("((((3))))", 3);
        noHall("shows (((((3)))));", 5, 11);
        shows("not not not not 3", 1);
        noHall("shows not not not not not 3;", 5, 26);
        shows("not (not (3))", 1);
        noHall("shows not (not (not 3));", 5, 20);
        shows("(not (not day))", 0);
        noHall("shows (not (not (day)));", 5, 17);
        shows("((((1))+(1)))+((((1))))", 3);
        noHall("shows ((((1))+(1)))+(((((1)))));", 5, 25);
        noHall("shows ((((1+(", 1, 13);
        noHall("shows ((((1+(1", 5, 13);
        noHall("shows ((((1+1*(0))));", 5, 15);
        shows("((((1+1*1<3 and 1))))", 1);
        shows("not not not not 0 + not not not not 1", 1);
    }

    private static void facts() {
        sentence("Facts: day (as it is trimmed), left (oil), far (how many CELLS off), hour.");
        LanternHall x = Check.hall("oil 9; guard 4; beam 3; shows day;");
        same("day 0", x.shown(1), 0);
        x.trim(3);
        same("day 3", x.shown(1), 3);
        LanternHall left = Check.hall("oil 3; shows left;");
        for (int oil = 3; oil >= 1; oil--) {
            same("left " + oil, left.shown(0), oil);
            left.step(0);
        }
        same("no oil", left.shown(0), -1);
        same("left 99", Check.hall("oil 99; shows left - 97;").shown(0), 2);
        LanternHall far = Check.hall("guard 4; beam 3; shows far;");
        int[] off = {-1, 3, 2, 1, 0, 1, 2, 3};
        for (int cell = 0; cell < 8; cell++) {
            same("far of " + cell, far.shown(cell), off[cell]);
        }
        same("far 5", Check.hall("beam 5; shows far - 3;").shown(5), 2);
        LanternHall hour = Check.hall("shows hour - 5;");
        for (int i = 0; i <= 8; i++) {
            same("hour " + i, hour.shown(0), i % 8 < 5 ? 0 : i % 8 - 5);
            hour.step(0);
        }
    }

    private static void truth() {
        sentence("Of not, and, or, < and = comes 1 or 0;");
        shows("not 0 + not 0", 2);
        shows("(2 and 3) + 1", 2);
        shows("(0 or 3) + 1", 2);
        shows("(2 < 3) + 1", 2);
        shows("(3 = 3) + 1", 2);
        shows("(3 < 3) + 1", 1);
        shows("not 9 + 1", 1);
        sentence("what is not 0 is so;");
        shows("not (0 - 1)", 0);
        shows("(0 - 1) and 2", 1);
        shows("(0 - 9) or 0", 1);
        shows("9999 and 1", 1);
        shows("0 and 1", 0);
        shows("1 and 0", 0);
        sentence("ints wrap.");
        shows(GREATEST + " < 0", 0);
        shows("0 < " + GREATEST, 1);
        shows("0 < " + GREATEST + "+1", 0);
        shows(GREATEST + "+1 < 0", 1);
        shows(GREATEST, 3);
        shows(GREATEST + "+1", 0);
        shows("0-(" + GREATEST + ")-1 < 0", 1);
        shows("0-(" + GREATEST + ")-2 < 0", 0);
        shows("0-(" + GREATEST + ")-1", 0);
        shows("0-(" + GREATEST + ")-2", 3);
        shows("256*256*256*127 < 0", 0);
        shows("256*256*256*128 < 0", 1);
        shows("256*256*256*256 = 0", 1);
        shows("256*256*256*256 + 2", 2);
        shows("not (256*256*256*256)", 1);
        shows("256*256*256*256 and 1", 0);
        sentence("Without shows: day.");
        LanternHall x = Check.hall("");
        for (int day = 3; day >= 0; day--) {
            x.trim(day);
            same("day " + day, x.shown(2), day);
        }
        same("new", new LanternHall().shown(0), 0);
        LanternHall y = Check.hall("shows 3;");
        same("with", y.shown(0), 3);
        same("the next HALL", Check.tellHall(y, ""), 0);
        same("is without", y.shown(0), 0);
    }

    private static void faults() {
        sentence("FAULTS, kind + 16 * the place (from 0) of a token, the end being one at the text's length:");
        noHall("?", 1, 0);
        noHall(" ?", 1, 1);
        noHall("\n\n?", 1, 2);
        noHall("cells", 1, 5);
        noHall("cells ", 1, 6);
        noHall("cells \n\n", 1, 8);
        noHall("cells 5", 1, 7);
        noHall(" ".repeat(989) + "cells 5    ", 1, 1000);
        noHall(" ".repeat(993) + "oil 100", 4, 997);
        noHall(" ".repeat(999) + "x", 1, 999);
        noNight(" ".repeat(999) + "x", 1, 999);
        noNight(" ".repeat(998) + "on", 1, 1000);
        sentence("of the first token from the left that is wrong the least:");
        noHall("cells 13; cells ?", 4, 6);
        noHall("cells 5; cells 13; ?", 3, 9);
        noHall("oil 5 oil 5;", 1, 6);
        noHall("fellow 1 2 3 4 5 6 7 8 12;", 4, 23);
        noHall("fellow 1 2 3 4 5 6 7 8 12345;", 1, 23);
        noHall("visitor a lady on 0 goes 1 2 3 4 5 6 7 8 12;", 4, 41);
        noHall("shows (((((?", 1, 11);
        noHall("shows (((((and", 1, 11);
        noHall("shows (((((99999", 1, 11);
        noHall(ladies(6) + "visitor g lady on 9 goes 99;", 5, ladies(6).length());
        noNight("on;".repeat(40) + "?", 1, 120);
        noNight("on;".repeat(40) + "trim 9;", 5, 120);
        noHall("pillar 12; pillar 12;", 4, 7);
    }

    private static void faultsOne() {
        sentence("1 it is none, or can't stand there;");
        noHall("cells # 5;", 1, 6);
        noHall("cells abcdefghi;", 1, 6);
        noHall("cells 12345;", 1, 6);
        noHall("cells beam;", 1, 6);
        noHall("cells 5 6;", 1, 8);
        noHall("cells (5);", 1, 6);
        noHall("cells -5;", 1, 6);
        noHall("pillar a;", 1, 7);
        noHall("visitor a lady on a goes 1;", 1, 18);
        noHall("visitor a lady on 1 goes a;", 1, 25);
        noHall("visitor a lady on 1 goes 1 a;", 1, 27);
        noHall("vase a at a;", 1, 10);
        noHall("vase a on 1;", 1, 7);
        noHall("visitor a lady at 1 goes 1;", 1, 15);
        noHall("fellow 1 a;", 1, 9);
        noHall("oil a;", 1, 4);
        noHall("guard a;", 1, 6);
        noHall("beam a;", 1, 5);
    }

    private static void faultsThree() {
        sentence("3 a NAME told already;");
        noHall("visitor day lady on 0 goes 1; vase day at 1;", 3, 35);
        isHall("visitor day lady on 0 goes 1; vase dax at 1;");
        sentence("a pillar told so;");
        noHall("pillar 0; pillar 0;", 3, 17);
        noHall("pillar 11; pillar 011;", 3, 18);
        isHall("pillar 0; pillar 1;");
        sentence("cells, beam, oil, guard, fellow, shows a second time;");
        for (String line : MEASURES) {
            String word = line.substring(0, line.indexOf(' '));
            noHall(line + word, 3, line.length());
            noHall(line + "\n " + word + " ?", 3, line.length() + 2);
        }
    }

    private static void faultsFour() {
        sentence("4 a NUMBER that is not as told;");
        noHall("cells 1;", 4, 6);
        noHall("pillar 12;", 4, 7);
        noHall("visitor a lady on 4 goes 1;", 4, 18);
        noHall("visitor a lady on 0 goes 12;", 4, 25);
        noHall("vase a at 12;", 4, 10);
        noHall("beam 0;", 4, 5);
        noHall("oil 100;", 4, 4);
        noHall("guard 12;", 4, 6);
        noHall("fellow 12;", 4, 7);
        noNight("trim 4;", 4, 5);
        noNight("fill 0;", 4, 5);
        // CELLS beyond those told are as told, for a NUMBER: 0 to 11.
        isHall("cells 2; pillar 11; guard 11; fellow 11; vase v at 11; visitor a lady on 0 goes 11;");
        isHall("shows 9999;");
    }

    private static void faultsFive() {
        sentence("5 one too many: the words visitor of a seventh, vase of a fifth,");
        noHall(ladies(6) + "visitor", 5, ladies(6).length());
        isHall(ladies(6));
        String vases = "vase w at 1;vase x at 1;vase y at 1;vase z at 1;";
        noHall(vases + "vase", 5, vases.length());
        isHall(vases);
        isHall(ladies(6) + vases);
        noHall(ladies(6) + vases + "visitor w", 5, ladies(6).length() + vases.length());
        sentence("a ninth NUMBER of goes, fellow,");
        noHall("visitor a lady on 0 goes 1 1 1 1 1 1 1 1 1", 5, 41);
        noHall("visitor a lady on 0 goes 1 1 1 1 1 1 1 1 x", 1, 41);
        isHall("visitor a lady on 0 goes 1 1 1 1 1 1 1 1;");
        noHall("fellow 1 1 1 1 1 1 1 1 1", 5, 23);
        isHall("fellow 1 1 1 1 1 1 1 1;");
        sentence("the first word of a 41st line of a NIGHT;");
        String forty = "on;back;rest;trim 1;".repeat(10);
        isNight(forty);
        for (String word : new String[] {"on", "back", "rest", "trim", "fill"}) {
            noNight(forty + word, 5, forty.length());
        }
        noNight(forty + "cells", 1, forty.length());
        noNight(forty + "1", 1, forty.length());
        noNight(forty + ";", 1, forty.length());
        isNight(forty + " ");
        sentence("not, or a PART, within 5 others.");
        noHall("shows (((((not 1", 5, 11);
        noHall("shows (((((1", 5, 11);
        noHall("shows (((((day", 5, 11);
        noHall("shows ((((((", 5, 11);
        noHall("shows (((((", 1, 11);
        noHall("shows (((((;", 1, 11);
        noHall("shows (((((abc", 1, 11);
        noHall("shows ((((not", 1, 13);
        noHall("shows ((((not 1", 5, 14);
        noHall("shows ((((not not", 5, 14);
        noHall("shows ((((not (", 5, 14);
        isHall("shows ((((1))));");
        isHall("shows (((not 1)));");
    }

    /** What a HALL begins with, told for an object with which all has been done that can be. */
    private static void hallFromThenOn() {
        sentence("Without a FAULT a HALL is the HALL from then on: hour 0, trimmed to day 0, oil as told, the guard at"
                + " his CELL");
        LanternHall x = worn();
        same("a HALL", Check.tellHall(x, "cells 9; oil 17; guard 6; visitor b lady on 0 goes 5;"), 0);
        int[] counts = {9, 1, 0, 2, 6, 0, 0, 17, 0, 0, 0, 0, 0, 0, 0, 0};
        for (int what = 0; what < counts.length; what++) {
            same("count " + what, x.count(what), counts[what]);
        }
        sentence("(if there is a pillar he stands in it),");
        counted("guard 3; pillar 3;", 4, 3);
        counted("guard 3; pillar 3;", 11, 8);
        sentence("no steps, no bumps, nobody SEEN, no NIGHT, nothing SAID, nothing can be undone, no MARK is there.");
        same("no bumps by a NIGHT", x.judged(1), -1);
        same("nothing can be undone", x.undo(), false);
        same("DAYS", x.days(), 15);
        for (int mark = 0; mark < 4; mark++) {
            same("MARK " + mark, x.mark(mark, true), false);
        }
        same("not SEEN", x.visitor(0, 3), 0);
        LanternHall y = worn();
        String before = Check.state(y);
        same("a FAULT at the very end", Check.tellHall(y, "cells 9; oil 17; guard 6; shows 3"), 1 + 16 * 33);
        Check.same("all stays", Check.state(y), before);
        same("a MARK stays", y.mark(3, true), true);
        same("an empty HALL is one too", y.hall(), 0);
        same("nothing", y.count(1), 0);
        same("no MARK", y.mark(3, true), false);
        nothingOfOthers();
    }

    /** Nothing that an earlier HALL told, or one with a FAULT, is told by the next ones. */
    private static void nothingOfOthers() {
        String rich = "cells 12; beam 5; oil 9; guard 7; pillar 3; fellow 2; visitor a lady on 0 goes 1; vase v at 1; shows 3;";
        String nothing = Check.state(new LanternHall());
        LanternHall x = new LanternHall();
        same("a rich one", Check.tellHall(x, rich), 0);
        same("an empty one", x.hall(), 0);
        Check.same("nothing", Check.state(x), nothing);
        same("another empty one", x.hall(), 0);
        Check.same("nothing", Check.state(x), nothing);
        same("a rich one with a FAULT", Check.tellHall(x, rich + "?"), 1 + 16 * rich.length());
        same("an empty one", x.hall(), 0);
        same("another empty one", x.hall(), 0);
        Check.same("nothing", Check.state(x), nothing);
    }

    private static LanternHall worn() {
        LanternHall x = Check.hall("cells 6; visitor a lady on 0 goes 1; vase v at 2; pillar 4; fellow 3; beam 3;");
        same("a NIGHT", Check.tellNight(x, "on;rest;"), 0);
        same("a bump", x.step(1), 1);
        same("oil", x.trim(2), 27);
        same("oil", x.fill(30), 57);
        same("SAID", x.say(0, 1, true), true);
        for (int mark = 0; mark < 4; mark++) {
            same("a MARK", x.mark(mark, false), true);
        }
        return x;
    }

    private static void nightFromThenOn() {
        sentence("A NIGHT is the NIGHT.");
        LanternHall x = Check.hall("oil 1; visitor a lady on 0 goes 1;");
        same("a NIGHT", Check.tellNight(x, "trim 0; on;"), 0);
        same("lines", x.count(12), 2);
        same("line 0 can't be", x.judged(0), 0);
        same("a bump", x.judged(1), 1);
        same("another", Check.tellNight(x, "on;"), 0);
        same("lines", x.count(12), 1);
        same("none", x.judged(0), -1);
        same("a bump", x.judged(1), 0);
        same("no NIGHT", Check.tellNight(x, "trim 0; on; on"), 1 + 16 * 14);
        same("lines stay", x.count(12), 1);
        same("none", x.judged(0), -1);
        same("an empty one", x.night(), 0);
        same("lines", x.count(12), 0);
        same("no bump", x.judged(1), -1);
        sentence("At first: 8 CELLS, nothing.");
        LanternHall y = new LanternHall();
        int[] counts = {8, 0, 0, 2, 0, 0, 0, 30, 0, 0, 0, 0, 0, 0, 0, 0};
        for (int what = 0; what < counts.length; what++) {
            same("count " + what, y.count(what), counts[what]);
        }
        Check.same("as an empty HALL", Check.state(y), Check.state(Check.hall("")));
    }
}
