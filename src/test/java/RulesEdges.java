import java.util.List;

/** Promises 12 and 13. */
final class RulesEdges extends Edges {
    private static final String EIGHT = "girl keep;girl keep;girl keep;girl keep;girl keep;girl keep;girl keep;girl keep;";

    private static String times(String text, int n) {
        return text.repeat(n);
    }

    // ---- promise 12

    void p12_nIs1To8() {
        ends(Scenes::rich, 1, 14, 8, 21, (x, v) -> x.feed(0x2020202020202020L, v));
    }

    void p12_200BytesAtMost() {
        for (int n = 1; n <= 8; n++) {
            int bytes = n;
            due("200 by " + n, Scenes.taped(200 - n).feed(0, n), 200);
            refused(() -> Scenes.taped(201 - bytes), -2, x -> x.feed(0, bytes));
        }
        refused(() -> Scenes.taped(200), -2, x -> x.feed(0, 1), x -> x.feed(0, 8));
    }

    void p12_whatIsFullYetTakesFewer() {
        NymphRota x = Scenes.taped(193);
        due("201", x.feed(0, 8), -2);
        due("200", x.feed(0x20202020202020L, 7), 200);
        due("figure smoke; and blanks", x.rules(), 1);
    }

    void p12_badIsNamedAheadOfFull() {
        refused(() -> Scenes.taped(200), -1, x -> x.feed(0, 0), x -> x.feed(0, 9), x -> x.feed(0, -1));
    }

    void p12_theLowestByteComesFirst() {
        NymphRota x = Scenes.one(2, 0, 0);
        due("girl kee", x.feed(0x65656b206c726967L, 8), 8);
        due("p;", x.feed(0x3b70, 2), 10);
        due("one RULE", x.rules(), 1);
        due("keep", x.figureOf(0, 9), 1);
    }

    void p12_bytesAboveTheNLowestComeNot() {
        for (int n = 1; n <= 7; n++) {
            NymphRota x = Scenes.bare();
            due("n blanks", x.feed(0x2020202020202020L | -1L << 8 * n, n), n);
            due("blanks alone", x.rules(), 0);
        }
    }

    void p12_theEighthByteComesToo() {
        NymphRota x = Scenes.bare();
        x.feed(0x4120202020202020L, 8);
        due("a byte that can't stand there", x.rules(), -107);
        x.feed(0x8020202020202020L, 8);
        due("one with the highest bit", x.rules(), -107);
    }

    void p12_aUsedUpTapeTakes200Again() {
        NymphRota x = Scenes.taped(200);
        x.rules();
        for (int i = 1; i <= 25; i++) {
            due("from 0 on", x.feed(0x2020202020202020L, 8), 8 * i);
        }
        due("201", x.feed(' ', 1), -2);
    }

    // ---- promise 13

    void p13_anEmptyTapeTells0Rules() {
        NymphRota x = Scenes.untaped();
        due("nothing", x.rules(), 0);
        due("in place of all", x.many(1), 0);
        due("no RULE tells", x.figureOf(0, 9), 0);
    }

    void p13_blanksAloneTell0Rules() {
        for (int n : new int[] {1, 2, 199, 200}) {
            NymphRota x = Scenes.told("keep", 1, 0, 0);
            due(n + " blanks", Check.rules(x, times(" ", n)), 0);
            due("none", x.many(1), 0);
        }
    }

    void p13_theTapeIsUsedUp() {
        NymphRota x = Scenes.rich();
        due("one", x.rules(), 1);
        due("used up", x.many(5), 0);
        due("nothing is told twice", x.rules(), 0);
        due("none", x.many(1), 0);
    }

    void p13_inPlaceOfAll() {
        NymphRota x = Scenes.untaped();
        x.change(0, 1, 30);
        due("keep", x.figureOf(0, 9), 1);
        due("one", Check.rules(x, "marble smoke;"), 1);
        due("the old ones tell no more", x.figureOf(0, 9), 0);
        due("the new one does", x.figureOf(1, 9), 2);
    }

    void p13_aFaultChangesNothingButTheTape() {
        for (String text : new String[] {"c", "figure keep;x", EIGHT + "girl", "figure", "girl if bell < 1"}) {
            changesNothing(Scenes::untaped, x -> Check.rules(x, text));
        }
    }

    private void fault(String text, int place) {
        NymphRota x = Scenes.told("smoke", 3, 0, 0);
        due("\"" + text + "\"", Check.rules(x, text), -100 - place);
        due("THE TAPE is used up", x.many(5), 0);
        due("THE RULES stay", x.many(1), 1);
        due("and tell", x.figureOf(0, 9), 2);
    }

    private void right(String text, int rules) {
        due("\"" + text + "\"", Check.rules(Scenes.bare(), text), rules);
    }

    void p13_eightRulesAtMost() {
        right(EIGHT, 8);
        right(EIGHT + " ", 8);
        right(EIGHT + times(" ", 120), 8);
        due("they are", many(EIGHT), 8);
        due("seven", many(EIGHT.substring(10)), 7);
    }

    private static int many(String text) {
        NymphRota x = Scenes.bare();
        Check.rules(x, text);
        return x.many(1);
    }

    void p13_theFirstNameOfTheNinthRuleIsTheFault() {
        fault(EIGHT + "girl keep;", 80);
        fault(EIGHT + "  girl", 82);
        fault(EIGHT + "figure keep", 80);
        fault(EIGHT + "if", 80);
        fault(EIGHT + ";", 80);
        fault(EIGHT + "7", 80);
    }

    void p13_aFaultAheadOfTheNinthRuleIsNamed() {
        fault("girl kee;" + EIGHT, 5);
        fault(EIGHT.substring(1) + "girl keep;", 0);
    }

    void p13_200BytesAreReadToTheLast() {
        right(EIGHT.substring(10) + times(" ", 120) + "girl keep;", 8);
        fault(times(" ", 199) + "x", 199);
        fault(times(" ", 194) + "figure", 200);
        fault(times(" ", 197) + "gir", 197);
        fault(times(" ", 196) + "girl", 200);
        fault(times(" ", 195) + "girls", 195);
        fault(times(";", 200), 0);
        fault("girl keep" + times(";", 191), 10);
        fault("girl if " + times("1<", 96), 11);
        fault("girl if " + times("(", 192), 11);
        fault("girl if " + times("1", 192), 8);
        fault("girl if " + times("x", 192), 8);
        fault("girl if " + times("not ", 48), 200);
        fault("girl if 1=1" + times(" or 1=1", 27), 200);
        right("girl if 1=1" + times(" or 1=1", 26) + " keep;", 1);
        right("girl if 1=1" + times(" and 1=1", 22) + " keep;", 1);
        right("girl if " + times("not ", 45) + "1=1 keep;", 1);
    }

    void p13_moreMustComeFaultIsHowManyBytesThereAre() {
        fault("girl", 4);
        fault("girl ", 5);
        fault("girl keep", 9);
        fault("girl keep   ", 12);
        fault("girl if", 7);
        fault("girl if (", 9);
        fault("girl if bell", 12);
        fault("girl if bell <", 14);
        fault("girl if bell < 1", 16);
        fault("girl if (bell < 1", 17);
        fault("girl if (bell < 1)", 18);
        fault("girl if not ", 12);
        fault("girl if bell < 1 and", 20);
        fault("girl if bell < 1 or", 19);
        fault("girl keep; girl", 15);
    }

    private static final List<String> KINDS = List.of("figure", "marble", "girl", "matron", "novice", "dreamer");
    private static final List<String> DO = List.of("relieve", "keep", "smoke");
    private static final List<String> VALUES = List.of("bell", "tired", "grace", "guests", "number", "0", "9999");
    private static final List<String> SIGNS = List.of("<", "=", ">");
    private static final List<String> ALL = List.of("figure", "marble", "girl", "matron", "novice", "dreamer", "relieve",
            "keep", "smoke", "bell", "tired", "grace", "guests", "number", "0", "9999", "<", "=", ">", "if", "and", "or",
            "not", "(", ")", ";", "10000", "x", "sun", "!");

    /** Each word and sign behind the text: either it can stand there, and more must come, or it is the FAULT. */
    @SafeVarargs
    private void mayStandBehind(String text, List<String>... lists) {
        for (String next : ALL) {
            boolean may = false;
            for (List<String> list : lists) {
                may |= list.contains(next);
            }
            String whole = text + " " + next;
            fault(whole, may ? whole.length() : text.length() + 1);
        }
    }

    void p13_whatCanStandAtTheBeginOfARule() {
        mayStandBehind("", KINDS);
        mayStandBehind("girl keep;", KINDS);
    }

    void p13_whatCanStandBehindAKind() {
        for (String kind : KINDS) {
            mayStandBehind(kind, DO, List.of("if"));
        }
    }

    void p13_whatCanStandWhereOneBegins() {
        List<String> more = List.of("not", "(");
        mayStandBehind("girl if", VALUES, more);
        mayStandBehind("girl if not", VALUES, more);
        mayStandBehind("girl if not not", VALUES, more);
        mayStandBehind("girl if (", VALUES, more);
        mayStandBehind("girl if ((", VALUES, more);
        mayStandBehind("girl if bell < 1 and", VALUES, more);
        mayStandBehind("girl if bell < 1 or", VALUES, more);
        mayStandBehind("girl if (bell < 1) or not", VALUES, more);
    }

    void p13_theFourthOpenIsTheFault() {
        List<String> not = List.of("not");
        mayStandBehind("girl if (((", VALUES, not);
        mayStandBehind("girl if (( not(", VALUES, not);
        mayStandBehind("girl if ((( 1 = 1 and", VALUES, not);
        mayStandBehind("girl if (((1=1)) and ((", VALUES, not);
        fault("girl if ((((1=1)))) keep;", 11);
    }

    void p13_threeAreOpenAtMostButMoreMayStand() {
        right("girl if (((1=1))) keep;", 1);
        right("girl if (((1=1))) and (((1=1))) or (((1=1))) keep;", 1);
        right("girl if (((1=1) and (1=1)) or ((1=1) and (1=1))) keep;", 1);
        right("girl if (((1=1))) keep; girl if (((1=1))) keep;", 2);
    }

    void p13_whatCanStandBehindAValue() {
        for (String value : VALUES) {
            mayStandBehind("girl if " + value, SIGNS);
        }
    }

    void p13_whatCanStandBehindASign() {
        for (String sign : SIGNS) {
            mayStandBehind("girl if bell " + sign, VALUES);
        }
    }

    void p13_whatCanStandBehindOne() {
        List<String> more = List.of("and", "or");
        mayStandBehind("girl if 1 < 2", more, DO);
        mayStandBehind("girl if 1 < tired", more, DO);
        mayStandBehind("girl if (1 < 2", more, List.of(")"));
        mayStandBehind("girl if (1 < 2)", more, DO);
        mayStandBehind("girl if ((1 < 2)", more, List.of(")"));
        mayStandBehind("girl if 1 < 2 and 1 < 2", more, DO);
        mayStandBehind("girl if 1 < 2 or 1 < 2", more, DO);
    }

    void p13_whatCanStandBehindDo() {
        for (String will : DO) {
            for (String text : new String[] {"girl " + will, "girl if 1 < 2 " + will}) {
                right(text + ";", 1);
                right(text + " ;", 1);
                for (String next : ALL) {
                    if (!next.equals(";")) {
                        fault(text + " " + next, text.length() + 1);
                    }
                }
            }
        }
    }

    void p13_numbersAreOf1To4Digits() {
        right("girl if 0 < 9 keep;", 1);
        right("girl if 0000 < 9999 keep;", 1);
        fault("girl if 00000 < 9 keep;", 8);
        fault("girl if 0 < 10000 keep;", 12);
        fault("girl if 0 < 1 2 keep;", 14);
        fault("girl if 12345", 8);
        fault("12345", 0);
    }

    void p13_numbersAre0To9999() {
        due("0", held("0 = 0 and not 0 > 0", 2, 0, 0), 1);
        due("9999", held("9999 > 9998 and 9999 = 9999", 2, 0, 0), 1);
        due("0099", held("0099 = 99 and 0099 < 100", 2, 0, 0), 1);
        due("digits count as they stand", held("1234 > 1233 and 1234 < 1235 and 4321 = 4321", 2, 0, 0), 1);
        due("1000", held("1000 > 999 and 0001 < 2", 2, 0, 0), 1);
    }

    /** WILL of one in NICHE 0: 1, if the condition holds. */
    private static int held(String condition, int kind, int tired, int grace) {
        NymphRota x = Scenes.one(kind, tired, grace);
        return Check.rules(x, "figure if " + condition + " keep;") == 1 ? x.figureOf(0, 9) : -1;
    }

    void p13_namesGoAsLongAsTheyGo() {
        fault("girlkeep;", 0);
        fault("girl keepx;", 5);
        fault("girl kee;", 5);
        fault("girls keep;", 0);
        fault("gir keep;", 0);
        fault("girl ifbell<1 keep;", 5);
        fault("girl if bell<1andbell<1 keep;", 14);
        fault("girl if notbell<1 keep;", 8);
        fault("girl aaaa;", 5);
        fault("girl zzzz;", 5);
        fault("girl keepz;", 5);
        fault("girl akeep;", 5);
    }

    void p13_namesOfSmallLettersAlone() {
        fault("Girl keep;", 0);
        fault("girl Keep;", 5);
        fault("girL keep;", 0);
        fault("girl keeP;", 5);
    }

    void p13_otherBytesStandNowhere() {
        for (int b = 0; b <= 255; b++) {
            boolean isTold = b == ' ' || b == '(' || b == ')' || b >= ';' && b <= '>' || b >= '0' && b <= '9'
                    || b >= 'a' && b <= 'z';
            if (!isTold) {
                char c = (char) b;
                fault(c + "girl keep;", 0);
                fault("girl" + c + "keep;", 4);
                fault("girl keep" + c + ";", 9);
                fault("girl keep;" + c, 10);
                fault("girl if 1" + c + "<2 keep;", 9);
            }
        }
    }

    void p13_blanksPartAndStandElsewhereAsOneLikes() {
        right("girl keep;", 1);
        right("  girl   keep  ;  ", 1);
        right("girl if((1<2)and(2<3))or not(3<4)keep;girl keep;", 2);
        right(" girl if ( ( 1 < 2 ) and ( 2 < 3 ) ) or not ( 3 < 4 ) keep ; girl keep ; ", 2);
        right("girl if bell<1 keep;", 1);
        fault("girl if 1 0<2 keep;", 10);
        fault("gi rl keep;", 0);
        fault("girl ke ep;", 5);
    }

    void p13_aNameAndANumberEndEachOther() {
        right("girl if20<tired keep;", 1);
        right("girl if 1<2keep;", 1);
        right("girl if 1<2and 2<3or 4<5keep;", 1);
        right("girl if not1<2 keep;", 1);
        fault("girl if bell1<2 keep;", 12);
        fault("girl if 1bell<2 keep;", 9);
    }

    void p13_signsStandAloneByOneByte() {
        fault("girl if 1<=2 keep;", 10);
        fault("girl if 1==2 keep;", 10);
        fault("girl if 1<>2 keep;", 10);
        fault("girl keep;;", 10);
        fault(";", 0);
        fault("girl if 1<2) keep;", 11);
        fault("girl if () keep;", 9);
        fault("girl if (1)<2 keep;", 10);
    }

    void p13_lessEqualAndMoreAreStrict() {
        String[] signs = {"<", "=", ">"};
        int[][] want = {{1, 0, 0}, {0, 1, 0}, {0, 0, 1}};
        for (int s = 0; s < 3; s++) {
            for (int than = 0; than < 3; than++) {
                due("20 " + signs[s] + " " + (21 - than), held("tired " + signs[s] + " " + (21 - than), 1, 20, 0), want[s][than]);
            }
        }
    }

    void p13_factsAtTheirLeastAndTheirMost() {
        due("TIRED 0", held("tired = 0", 1, 0, 5), 1);
        due("TIRED 99", held("tired = 99", 1, 99, 5), 1);
        due("GRACE 0", held("grace = 0", 1, 7, 0), 1);
        due("GRACE 9", held("grace = 9", 1, 7, 9), 1);
        due("BELL 0", held("bell = 0", 1, 7, 7), 1);
        due("number 0", held("number = 0", 1, 7, 7), 1);
        due("GUESTS 1", held("guests = 1", 1, 7, 7), 1);
    }

    void p13_numberIsThatOfTheFigure() {
        NymphRota x = Scenes.six();
        x.rules();
        for (int k = 0; k < 6; k++) {
            Check.rules(x, "figure if number = " + k + " smoke;");
            for (int other = 0; other < 6; other++) {
                due("number " + k + " of " + other, x.figureOf(other, 9), other == k ? 2 : 0);
            }
        }
    }

    void p13_guestsAreThoseOfThatBell() {
        NymphRota x = Scenes.one(1, 0, 0);
        x.ends(16);
        Check.rules(x, "figure if guests = 3 keep; figure if guests = 0 smoke;");
        x.weather(0, 3);
        x.weather(1, 12);
        x.weather(15, 3);
        due("3", x.figureOf(0, 9), 1);
        x.bell();
        due("0", x.figureOf(0, 9), 2);
        Scenes.after(x, 14);
        due("3 at BELL 15", x.figureOf(0, 9), 1);
        x.bell();
        due("0 behind BELL 15", x.figureOf(0, 9), 2);
    }

    void p13_bellIsTheOneThatGoesByUpTo16() {
        NymphRota x = Scenes.one(1, 0, 0);
        x.ends(16);
        for (int bell = 0; bell <= 16; bell++) {
            due("BELL " + bell, Check.rules(x, "figure if bell = " + bell + " keep;"), 1);
            due("it is", x.figureOf(0, 9), 1);
            x.bell();
        }
    }

    void p13_anAllBindsMoreThanOrAndNotMoreThanAnAll() {
        due("true or false and false", held("1=1 or 1=1 and 1=2", 1, 0, 0), 1);
        due("false and true or true", held("1=2 and 1=1 or 1=1", 1, 0, 0), 1);
        due("false and (true or true)", held("1=2 and (1=1 or 1=1)", 1, 0, 0), 0);
        due("not false and false", held("not 1=2 and 1=2", 1, 0, 0), 0);
        due("not (false and false)", held("not (1=2 and 1=2)", 1, 0, 0), 1);
        due("not true or true", held("not 1=1 or 1=1", 1, 0, 0), 1);
        due("not not true", held("not not 1=1", 1, 0, 0), 1);
        due("not true", held("not 1=1", 1, 0, 0), 0);
    }

    void p13_notsAndJointsToTheLast() {
        due("45 nots", held(times("not ", 45) + "1=1", 1, 0, 0), 0);
        due("44 nots", held(times("not ", 44) + "1=1", 1, 0, 0), 1);
        due("the last of 26", held("1=2" + times(" or 1=2", 24) + " or 1=1", 1, 0, 0), 1);
        due("none of 26", held("1=2" + times(" or 1=2", 25), 1, 0, 0), 0);
        due("all of 22", held("1=1" + times(" and 1=1", 21), 1, 0, 0), 1);
        due("but for the last", held("1=1" + times(" and 1=1", 20) + " and 1=2", 1, 0, 0), 0);
    }

    void p13_manyTextsOneBehindTheOther() {
        NymphRota x = Scenes.one(1, 0, 0);
        for (int i = 0; i < 9; i++) {
            due("18 that hold", Check.rules(x, "marble if 1=1" + times(" and " + i + "=" + i, 17) + " keep;"), 1);
            due("keep", x.figureOf(0, 9), 1);
            due("the last one not", Check.rules(x, "marble if 1=1" + times(" and 1=1", 17) + " and " + i + "=" + (i + 1)
                    + " keep;"), 1);
            due("relieve", x.figureOf(0, 9), 0);
        }
    }

    void p13_threeOpenHoldAsTheyHangTogether() {
        due("1", held("(1=1 and (1=2 or (1=1 and not 1=2)))", 1, 0, 0), 1);
        due("0", held("(1=1 and (1=2 or (1=1 and 1=2)))", 1, 0, 0), 0);
        due("not of all", held("not (1=1 and not (1=2 or not (1=1 and 1=1)))", 1, 0, 0), 0);
        due("each waits for the next", held("1=1 and (1=1 and (1=1 and (1=2 or 1=1)))", 1, 0, 0), 1);
        due("each waits for the next", held("1=2 or 1=1 and (1=2 or 1=1 and (1=2 or 1=1 and (1=2 or 1=1 and 1=1)))", 1, 0, 0), 1);
        due("each waits for the next", held("1=2 or 1=1 and (1=2 or 1=1 and (1=2 or 1=1 and (1=2 or 1=1 and 1=2)))", 1, 0, 0), 0);
    }

    private void tells(String kind, int... want) {
        NymphRota x = Scenes.kinds(0, 0);
        Check.rules(x, kind + " smoke;");
        for (int k = 0; k < 5; k++) {
            due(kind + " tells KIND " + (k + 1), x.figureOf(k, 9), want[k]);
        }
    }

    void p13_aRuleTellsItsKindAndThoseUnderIt() {
        tells("figure", 2, 2, 2, 2, 2);
        tells("marble", 2, 0, 0, 0, 0);
        tells("girl", 0, 2, 2, 0, 0);
        tells("matron", 0, 0, 2, 0, 0);
        tells("novice", 0, 0, 0, 2, 2);
        tells("dreamer", 0, 0, 0, 0, 2);
    }

    void p13_theFirstThatTellsAlsoTheLastOfEight() {
        NymphRota x = Scenes.one(1, 0, 0);
        Check.rules(x, EIGHT.replace("girl keep;girl keep;", "girl keep;marble if 1=2 keep;") );
        due("none of eight", x.figureOf(0, 9), 0);
        Check.rules(x, EIGHT.substring(10) + "marble smoke;");
        due("the eighth", x.figureOf(0, 9), 2);
        Check.rules(x, "marble keep;" + EIGHT.substring(20) + "marble smoke;");
        due("the first", x.figureOf(0, 9), 1);
        Check.rules(x, "marble if tired = 1 keep; marble if tired = 0 smoke; figure relieve;");
        due("the first whose condition holds", x.figureOf(0, 9), 2);
        x.change(0, 1, 1);
        due("the first", x.figureOf(0, 9), 1);
        x.change(0, 1, 2);
        due("the last", x.figureOf(0, 9), 0);
    }
}
