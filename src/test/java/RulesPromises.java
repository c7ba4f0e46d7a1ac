/** Promises 12 and 13. */
final class RulesPromises {
    private final Check check;

    private RulesPromises(Check check) {
        this.check = check;
    }

    static void run(Check check) {
        RulesPromises all = new RulesPromises(check);
        all.feed();
        all.counts();
        all.faults();
        all.longTexts();
        all.conditions();
        all.order();
        all.facts();
    }

    private void due(String what, int got, int want) {
        check.due(what, got, want);
    }

    private void feed() {
        check.promise(12);
        NymphRota x = new NymphRota();
        due("n 0", x.feed(0, 0), -1);
        due("n 9", x.feed(0, 9), -1);
        due("n -1", x.feed(0, -1), -1);
        due("n far off", x.feed(0, Integer.MIN_VALUE), -1);
        due("one", x.feed(' ', 1), 1);
        due("eight", x.feed(0x2020202020202020L, 8), 9);
        for (int i = 0; i < 23; i++) {
            x.feed(0x2020202020202020L, 8);
        }
        due("193 by now", x.many(5), 193);
        due("more than 200", x.feed(0x2020202020202020L, 8), -2);
        due("BAD is named first", x.feed(0, 9), -1);
        due("200", x.feed(0x20202020202020L, 7), 200);
        due("201", x.feed(' ', 1), -2);
        due("blanks alone", x.rules(), 0);
        due("used up", x.many(5), 0);
        due("the lowest first", x.feed('A' << 16 | ' ' << 8 | ' ', 3), 3);
        due("FAULT", x.rules(), -102);
        due("only n count", x.feed('A' << 16 | ' ' << 8 | ' ', 2), 2);
        due("blanks", x.rules(), 0);
    }

    private void counts() {
        check.promise(13);
        NymphRota x = Check.five();
        due("no text", x.rules(), 0);
        due("one", Check.rules(x, "figure keep;"), 1);
        due("told", x.figureOf(2, 9), 1);
        due("RULES", x.many(1), 1);
        due("in place of all", Check.rules(x, " marble  smoke ;girl keep;"), 2);
        due("not told now", x.figureOf(2, 9), 0);
        due("told now", x.figureOf(1, 9), 1);
        due("as long as they go", Check.rules(x, "girl if20>tired and tired>19smoke;"), 1);
        due("so", x.figureOf(1, 9), 0);
        due("FAULT", Check.rules(x, "girl keep"), -109);
        due("as it was", x.many(1), 1);
        due("used up", x.many(5), 0);
        due("eight", Check.rules(x, "girl keep;girl keep;girl keep;girl keep;girl keep;girl keep;girl keep;girl keep; "), 8);
        due("nine", Check.rules(x, "girl keep;girl keep;girl keep;girl keep;girl keep;girl keep;girl keep;girl keep; girl"),
                -181);
        due("none", Check.rules(x, " "), 0);
        due("none tells", x.many(1), 0);
    }

    private void fault(String text, int place) {
        due("\"" + text + "\"", Check.rules(new NymphRota(), text), -100 - place);
    }

    private void faults() {
        fault("c", 0);
        fault("figures keep;", 0);
        fault("figur keep;", 0);
        fault("figurez keep;", 0);
        fault("Figure keep;", 0);
        fault("7 keep;", 0);
        fault("keep;", 0);
        fault("if", 0);
        fault(";", 0);
        fault("figure", 6);
        fault("figure  ", 8);
        fault("figure;", 6);
        fault("figure figure;", 7);
        fault("figurekeep;", 0);
        fault("figure keep", 11);
        fault("figure keep keep;", 12);
        fault("figure keep;;", 12);
        fault("figure keep; x", 13);
        fault("figure if keep;", 10);
        fault("figure if bell keep;", 15);
        fault("figure if bell < keep;", 17);
        fault("figure if bell < 1", 18);
        fault("figure if bell < 1;", 18);
        fault("figure if bell < 1 not keep;", 19);
        fault("figure if bell < 1 2 keep;", 19);
        fault("figure if bell < 1 < 2 keep;", 19);
        fault("figure if bell <= 1 keep;", 16);
        fault("figure if bell < 12345 keep;", 17);
        fault("figure if 00000 < 1 keep;", 10);
        fault("figure if -1 < 1 keep;", 10);
        fault("figure if bell < 1) keep;", 18);
        fault("figure if (bell < 1 keep;", 20);
        fault("figure if () keep;", 11);
        fault("figure if (bell) < 1 keep;", 15);
        fault("figure if bell < 1 and keep;", 23);
        fault("figure if bell < 1 or keep;", 22);
        fault("figure if (bell < 1 or) keep;", 22);
        fault("figure if (bell < 1 and) keep;", 23);
        fault("figure if bell < 1 or or bell < 1 keep;", 22);
        fault("figure if not keep;", 14);
        fault("figure if not", 13);
        fault("figure if ((((bell < 1)))) keep;", 13);
        fault("figure if (((bell < 1))) and ((((", 32);
        fault("figure if (((bell < 1) and (bell < 1))) and (((bell = 1) or ( bell > 1))) and (((bell<1)and not((", 96);
        fault("figure\tkeep;", 6);
        fault("figure" + (char) 160 + "keep;", 6);
        fault("figure" + (char) 0 + "keep;", 6);
        fault("figure" + (char) 225 + " keep;", 6);
        fault("marble if tired < sun keep;", 18);
        NymphRota x = new NymphRota();
        due("three within one another", Check.rules(x, "figure if (((bell < 1) and (bell < 1))) keep;"), 1);
        due("nots", Check.rules(x, "figure if not not not(not bell < 1) keep;"), 1);
        due("no blanks", Check.rules(x, "figure if(1<2)and(2<3)or not(3<4)keep;"), 1);
        due("four digits", Check.rules(x, "figure if 9999 > 0000 keep;"), 1);
    }

    private static String times(String text, int n) {
        StringBuilder all = new StringBuilder();
        for (int i = 0; i < n; i++) {
            all.append(text);
        }
        return all.toString();
    }

    /** The longest texts that 200 bytes can hold. */
    private void longTexts() {
        NymphRota x = Check.five();
        due("many values", Check.rules(x, "girl if 1<2" + times("or 1<2", 30) + " keep;"), 1);
        due("they hold", x.figureOf(1, 9), 1);
        due("many nots", Check.rules(x, "girl if " + times("not ", 45) + "1<2 smoke;"), 1);
        due("45 of them", x.figureOf(1, 9), 0);
        due("many nots", Check.rules(x, "girl if " + times("not ", 44) + "1<2 smoke;"), 1);
        due("44 of them", x.figureOf(1, 9), 2);
        due("open to the end", Check.rules(x, "girl if " + times(" ", 192)), -300);
        due("letters to the end", Check.rules(x, times("x", 200)), -100);
        due("digits to the end", Check.rules(x, "girl if " + times("1", 192)), -108);
        due("signs to the end", Check.rules(x, times(";", 200)), -100);
        due("signs to the end", Check.rules(x, "girl keep" + times(";", 191)), -110);
        due("wrong at the end", Check.rules(x, times(" ", 199) + "!"), -299);
        due("as it was", x.figureOf(1, 9), 2);
        for (int i = 0; i < 5; i++) {
            due("again and again", Check.rules(x, "girl if 1<2" + times(" and 3<" + (4 + i), 20) + " keep;"), 1);
            due("it holds", x.figureOf(1, 9), 1);
            due("and so", Check.rules(x, "girl if 1<2" + times(" and 3<4", 19) + " and 3=" + i + " keep;"), 1);
            due("or not", x.figureOf(1, 9), i == 3 ? 1 : 0);
        }
    }

    private void held(String condition, int want) {
        NymphRota x = Check.five();
        due("RULE", Check.rules(x, "girl if " + condition + " keep;"), 1);
        due(condition, x.figureOf(1, 9), want);
    }

    /** Of FIGURE 1: TIRED 20, GRACE 6, GUESTS 1, BELL 0. */
    private void conditions() {
        held("1 < 2", 1);
        held("2 < 2", 0);
        held("2 = 2", 1);
        held("2 = 3", 0);
        held("3 > 2", 1);
        held("2 > 2", 0);
        held("9999 > 0099", 1);
        held("12 = 0012", 1);
        held("not 1 < 2", 0);
        held("not not 1 < 2", 1);
        held("1 = 1 or 1 = 1 and 1 = 2", 1);
        held("(1 = 1 or 1 = 1) and 1 = 2", 0);
        held("1 = 2 and 1 = 1 or 1 = 1", 1);
        held("1 = 2 and (1 = 1 or 1 = 1)", 0);
        held("not 1 = 2 and 1 = 2", 0);
        held("not (1 = 2 and 1 = 2)", 1);
        held("not 1 = 1 or 1 = 1", 1);
        held("not (1 = 1 or 1 = 1)", 0);
        held("1 = 1 and not (1 = 1 and (1 = 2 or not 1 = 1))", 1);
        held("1 = 2 or 1 = 2 or 1 = 1", 1);
        held("1 = 1 and 1 = 1 and 1 = 2", 0);
        held("tired = 20 and grace = 6 and guests = 1 and number = 1 and bell = 0", 1);
        held("tired > grace", 1);
        held("tired < grace", 0);
        held("grace > bell and bell < guests", 1);
        held("20 = tired", 1);
    }

    private void order() {
        NymphRota x = Check.five();
        Check.rules(x, "girl keep; figure smoke;");
        due("the first one tells", x.figureOf(1, 9), 1);
        due("a KIND under it, too", x.figureOf(4, 9), 1);
        due("the one above", x.figureOf(0, 9), 2);
        Check.rules(x, "matron smoke; girl if tired > 43 relieve; girl keep;");
        due("matron", x.figureOf(4, 9), 2);
        due("a girl is no matron; its condition fails", x.figureOf(1, 9), 1);
        x.change(1, 1, 44);
        due("its condition holds", x.figureOf(1, 9), 0);
        Check.rules(x, "dreamer keep; novice smoke;");
        due("dreamer", x.figureOf(3, 9), 1);
        due("novice", x.figureOf(2, 9), 2);
        Check.rules(x, "novice smoke; marble keep;");
        due("a dreamer is a novice", x.figureOf(3, 9), 2);
        due("marble", x.figureOf(0, 9), 1);
        due("a girl is neither", x.figureOf(1, 9), 0);
    }

    private void facts() {
        NymphRota x = Check.five();
        Check.rules(x, "figure if bell = 1 keep; figure if guests = 3 smoke;");
        due("BELL 0", x.figureOf(0, 9), 0);
        x.weather(0, 3);
        due("GUESTS 3", x.figureOf(0, 9), 2);
        x.bell();
        due("BELL 1", x.figureOf(0, 9), 1);
        Check.rules(x, "figure if number = 3 keep; figure if guests = 0 smoke;");
        due("number", x.figureOf(3, 9), 1);
        x.ends(16);
        for (int i = 1; i < 16; i++) {
            due("GUESTS", x.figureOf(0, 9), 0);
            x.bell();
        }
        due("no GUESTS behind BELL 15", x.figureOf(0, 9), 2);
    }
}
