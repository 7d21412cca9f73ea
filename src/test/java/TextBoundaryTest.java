/** Boundary cases of THE TEXT: write, erase, fault, desk. */
public final class TextBoundaryTest extends Boundary {
    public static void main(String[] args) throws Exception {
        runAll(TextBoundaryTest.class, 2, 3, 4, 5);
    }

    // ---- write

    void promise02_theLeastLetterIs0() {
        due("write 0", x.write(0), 1);
        lets("write -1", OUTSIDE, d -> d.write(-1));
    }

    void promise02_theGreatestLetterIs255() {
        due("write 255", x.write(255), 1);
        lets("write 256", OUTSIDE, d -> d.write(256));
    }

    void promise02_aNumberFarFromALetterIsOutside() {
        for (int letter : beside(256)) {
            lets("write " + letter, OUTSIDE, d -> d.write(letter));
        }
        // of these the last eight bits are those of a letter
        for (int high : new int[] {-256, 256, 65536, MIN}) {
            lets("write " + (high + 'a'), OUTSIDE, d -> d.write(high + 'a'));
        }
    }

    void promise02_the200thLetterIsTheLast() {
        for (int k = 1; k <= 200; k++) {
            due("letter " + k, x.write('a'), k);
        }
        due("letter 201", x.write('a'), FULL);
        due("letters", x.count(3), 200);
    }

    void promise02_the200thLetterIsRead() {
        write(x, " ".repeat(197) + "all");
        due("fault", x.fault(), NONE);
        x.erase();
        write(x, "all" + " ".repeat(196) + "x");
        due("fault at the 200th", x.fault(), 199);
    }

    void promise02_the201stLetterChangesNothing() {
        lets("write", FULL, TextBoundaryTest::fullText, d -> d.write('a'));
        lets("write 0", FULL, TextBoundaryTest::fullText, d -> d.write(0));
        lets("write 255", FULL, TextBoundaryTest::fullText, d -> d.write(255));
    }

    void promise02_outsideIsAheadOfFull() {
        for (int letter : beside(256)) {
            lets("write " + letter, OUTSIDE, TextBoundaryTest::fullText, d -> d.write(letter));
        }
    }

    void promise02_anEmptiedTextTakesLettersAgain() {
        fullText(x);
        x.erase();
        due("behind erase()", x.write('u'), 1);
        fresh();
        fullText(x);
        due("desk", x.desk(), 3);
        due("behind desk()", x.write('u'), 1);
    }

    private static void fullText(QuaternionDesk x) {
        busy(x);
        // 32 letters are there
        write(x, " ".repeat(168));
    }

    // ---- erase

    void promise03_anEmptyTextHadNoLetter() {
        due("erase", x.erase(), 0);
        due("erase again", x.erase(), 0);
        lets("erase of none", 0, d -> d.set(0, 2, 0, 0, 0), QuaternionDesk::erase);
    }

    void promise03_oneLetter() {
        x.write(32);
        due("erase", x.erase(), 1);
        due("letters", x.count(3), 0);
    }

    void promise03_aFullTextHad200() {
        fullText(x);
        due("erase", x.erase(), 200);
        due("erase again", x.erase(), 0);
    }

    void promise03_allElseIsLetBe() {
        QuaternionDesk twin = new QuaternionDesk();
        busy(x);
        busy(twin);
        due("erase", x.erase(), 32);
        due("letters", x.count(3), 0);
        write(x, "unit 3 5;put 4 -2 0 0 4;copy 1 0");
        alike("erase", x, twin);
    }

    void promise03_nothingOfItIsLeft() {
        write(x, "all;all");
        x.erase();
        write(x, "al");
        due("fault", x.fault(), 0);
        x.erase();
        due("fault of none", x.fault(), 0);
    }

    // ---- fault

    private void fault(String text, int want) {
        fresh();
        write(x, text);
        due("'" + text + "'", x.fault(), want);
        due("'" + text + "' again", x.fault(), want);
        due("letters of '" + text + "'", x.count(3), text.length());
    }

    void promise04_anEmptyTextEndsTooSoon() {
        fault("", 0);
    }

    void promise04_aTextOfBlanksEndsTooSoonAtItsLength() {
        fault(" ", 1);
        fault("     ", 5);
        fault(" ".repeat(200), 200);
    }

    void promise04_oneClauseIsEnough() {
        fault("all", NONE);
        fault("put 0 0 0 0 0", NONE);
        fault("unit 0 0", NONE);
        fault("copy 0 0", NONE);
    }

    void promise04_the24thClauseIsTheLast() {
        fault("all;".repeat(22) + "all", NONE);
        fault("all;".repeat(23) + "all", NONE);
        fault("all;".repeat(23) + "unit 5 23  ", NONE);
        fault("all;".repeat(24) + "all", 95);
    }

    void promise04_theSemicolonBehindThe24thClauseIsTheFault() {
        fault("all;".repeat(24), 95);
        fault("all;".repeat(24) + ";", 95);
        fault("all;".repeat(24) + "foo", 95);
        fault("all;".repeat(23) + "all  ; all", 97);
        fault("all;".repeat(25), 95);
    }

    void promise04_another24thTokenIsTheFaultToo() {
        fault("all;".repeat(23) + "all all", 96);
        fault("all;".repeat(23) + "al", 92);
        fault("all;".repeat(23) + "put 0 1 1 1 2", 104);
    }

    void promise04_behindASemicolonAClauseHasToCome() {
        fault("all;", 4);
        fault("all;  ", 6);
        fault("all;".repeat(23), 92);
        fault("all;;all", 4);
        fault("all; ;all", 5);
    }

    void promise04_aheadOfASemicolonAClauseHasToStand() {
        fault(";", 0);
        fault(";all", 0);
        fault("  ;all", 2);
    }

    void promise04_betweenClausesASemicolonHasToStand() {
        fault("all all", 4);
        fault("all,all", 3);
        fault("all:all", 3);
        fault("all.", 3);
        fault("unit 0 1 all", 9);
        fault("unit 0 1unit 0 1", 8);
    }

    void promise04_aNameIsAsWritten() {
        String[] near = {"a", "al", "alll", "aall", "bll", "alk", "p", "pu", "putt", "puts", "qut", "pus", "u", "un",
            "uni", "units", "unis", "init", "c", "co", "cop", "copyy", "coqy", "copz", "dopy", "z", "put0put"};
        for (String name : near) {
            fault(name + " 0 0 0 0 0", name.startsWith("put0") ? 4 : 0);
        }
    }

    void promise04_greatLettersAreNoName() {
        fault("All", 0);
        fault("aLL", 0);
        fault("alL", 0);
        fault("PUT 0 0 0 0 0", 0);
        fault("Unit 0 0", 0);
        fault("COPY 0 0", 0);
    }

    void promise04_aRowOfSmallLettersIsOneToken() {
        fault("allall", 0);
        fault("alla", 0);
        fault("allz", 0);
        fault("aall", 0);
        fault("zall", 0);
        fault("unitunit 0 0", 0);
        fault("putx 0 0 0 0 0", 0);
    }

    void promise04_theSignsNextToLettersAndDigitsAreTokensOfTheirOwn() {
        for (int letter : new int[] {96, 123, 64, 91, 47, 58, 0, 31, 33, 127, 128, 160, 255}) {
            String sign = String.valueOf((char) letter);
            fault("all" + sign, 3);
            fault(sign + "all", 0);
            fault("unit 0 1" + sign, 8);
            fault("unit 0 " + sign + "1", 7);
            fault("unit 0" + sign + "1", 6);
            fault("unit" + sign + "0 1", 4);
        }
    }

    void promise04_digitsFrom0To9AreOneRow() {
        fault("all0", 3);
        fault("all9", 3);
        fault("0all", 0);
        fault("9", 0);
        fault("unit 0 10", NONE);
        fault("unit 0 19", NONE);
        fault("unit 0 09", NONE);
        fault("unit 00", 7);
        fault("unit 01", 7);
        fault("copy 12", 5);
    }

    void promise04_aSlotIs0To5() {
        for (String clause : new String[] {"put S 1 1 1 1", "unit S 1", "copy S 1", "copy 1 S"}) {
            int at = clause.indexOf('S');
            for (String slot : new String[] {"0", "1", "5", "00", "05"}) {
                fault(clause.replace("S", slot), NONE);
            }
            for (String slot : new String[] {"6", "7", "9", "06", "10", "15", "50", "99"}) {
                fault(clause.replace("S", slot), at);
            }
        }
    }

    void promise04_aUnitIs0To23() {
        for (String unit : new String[] {"0", "00", "9", "10", "22", "23"}) {
            fault("unit 5 " + unit, NONE);
        }
        for (String unit : new String[] {"24", "25", "30", "99"}) {
            fault("unit 5 " + unit, 7);
        }
    }

    void promise04_aNumberIs0To24() {
        for (int i = 0; i < 4; i++) {
            for (String number : new String[] {"0", "00", "2", "02", "24"}) {
                fault(put(i, "0", number), NONE);
            }
            for (String number : new String[] {"26", "98"}) {
                fault(put(i, "0", number), 6 + 2 * i);
            }
            for (String number : new String[] {"25", "27", "99"}) {
                fault(put(i, "1", number), 6 + 2 * i);
            }
        }
    }

    /** A put clause: number i is this one, the others are all the same. */
    private static String put(int i, String others, String number) {
        StringBuilder clause = new StringBuilder("put 0");
        for (int k = 0; k < 4; k++) {
            clause.append(' ').append(k == i ? number : others);
        }
        return clause.toString();
    }

    void promise04_aNumberBehindAMinusIs0To24Too() {
        for (int i = 0; i < 4; i++) {
            for (String number : new String[] {"-0", "-00", "-2", "-24", "- 24"}) {
                fault(put(i, "0", number), NONE);
            }
            fault(put(i, "0", "-26"), 7 + 2 * i);
            fault(put(i, "0", "- 26"), 8 + 2 * i);
            fault(put(i, "1", "-25"), 7 + 2 * i);
            fault(put(i, "1", "-99"), 7 + 2 * i);
        }
    }

    void promise04_moreThan2DigitsAreAFault() {
        for (int i = 0; i < 4; i++) {
            fault(put(i, "0", "000"), 6 + 2 * i);
            fault(put(i, "1", "001"), 6 + 2 * i);
            fault(put(i, "1", "-001"), 7 + 2 * i);
            fault(put(i, "1", "0000000001"), 6 + 2 * i);
            // 2 to the 32nd and 1: a row of digits that wraps around
            fault(put(i, "1", "4294967297"), 6 + 2 * i);
        }
        fault("put 000 0 0 0 0", 4);
        fault("unit 001 1", 5);
        fault("unit 1 001", 7);
        fault("copy 001 1", 5);
        fault("copy 1 001", 7);
    }

    void promise04_aNumberOfNoDigitsIsAFault() {
        for (int i = 0; i < 4; i++) {
            fault(put(i, "0", "x"), 6 + 2 * i);
            fault(put(i, "0", "-x"), 7 + 2 * i);
            fault(put(i, "0", ";"), 6 + 2 * i);
            fault(put(i, "0", "-;"), 7 + 2 * i);
        }
        fault("put x 0 0 0 0", 4);
        fault("unit x 0", 5);
        fault("unit 0 x", 7);
        fault("copy 0 ;", 7);
    }

    void promise04_oneMinusAloneMayStandAheadOfANumber() {
        fault("put 0--1 1 1 1", 6);
        fault("put 0 - - 1 1 1 1", 8);
        fault("put 0 1 1 1 - -1", 14);
        fault("put 0 +1 1 1 1", 6);
        fault("put 0 1-1-1-1", NONE);
        fault("put 0 1 1 1 1-", 13);
    }

    void promise04_noMinusStandsAheadOfASlotOrAUnit() {
        fault("put -1 0 0 0 0", 4);
        fault("put - 0 0 0 0 0", 4);
        fault("unit -0 0", 5);
        fault("unit 0 -0", 7);
        fault("copy -0 0", 5);
        fault("copy 0 -0", 7);
    }

    void promise04_oneThatIsOddWhereAIsEvenIsTheFault() {
        fault("put 0 2 1 2 2", 8);
        fault("put 0 2 2 1 2", 10);
        fault("put 0 2 2 2 1", 12);
        fault("put 0 0 0 0 23", 12);
        fault("put 0 -2 -1 -2 -2", 10);
        fault("put 0 -2 -2 -1 -2", 13);
        fault("put 0 -2 -2 -2 -1", 16);
        // of two the first
        fault("put 0 2 1 1 1", 8);
    }

    void promise04_oneThatIsEvenWhereAIsOddIsTheFault() {
        fault("put 0 1 2 1 1", 8);
        fault("put 0 1 1 2 1", 10);
        fault("put 0 1 1 1 2", 12);
        fault("put 0 1 1 1 0", 12);
        fault("put 0 -1 -2 -1 -1", 10);
        fault("put 0 -1 -1 -2 -1", 13);
        fault("put 0 -1 -1 -1 -2", 16);
        fault("put 0 1 2 2 2", 8);
    }

    void promise04_aNormOf150MayBe() {
        fault("put 0 24 4 2 2", NONE);
        fault("put 0 2 2 4 24", NONE);
        fault("put 0 -24 -4 -2 -2", NONE);
        fault("put 0 20 10 10 0", NONE);
        // all odd: 149
        fault("put 0 23 7 3 3", NONE);
        fault("put 0 -3 -3 -7 -23", NONE);
    }

    void promise04_aDByWhichTheNormIsAbove150IsTheFault() {
        // 151, all even and all odd
        fault("put 0 22 10 4 2", 14);
        fault("put 0 2 4 10 22", 13);
        fault("put 0 -22 -10 -4 -2", 18);
        fault("put 0 23 5 5 5", 13);
        fault("put 0 5 5 5 -23", 13);
        fault("put 0 24 4 4 0", 13);
        fault("put 0 18 18 0 0", 14);
    }

    void promise04_theNormIsAskedForAtDAlone() {
        fault("put 0 24 24 24 24", 15);
        fault("put 0 24 24 24 -24", 16);
        fault("put 0 24 24 24 - 24", 17);
        fault("put 0 24 24 0 0", 14);
        fault("put 0 24 24 24", 14);
        fault("put 0 24 24 24 -", 16);
        fault("put 0 24 24 23 0", 12);
        fault("put 0 24 24 26 0", 12);
        fault("put 0 23 23 23 24", 15);
    }

    void promise04_theFirstOfTwoFaultsIsTold() {
        fault("put 6 25 1 1 1", 4);
        fault("put 0 25 2 1 1", 6);
        fault("put 0 1 2 25 001", 8);
        fault("unit 6 24", 5);
        fault("copy 6 6", 5);
        fault("al;unit 6 24", 0);
        fault("all;unit 6 24;foo", 9);
        fault("all all ;", 4);
        fault("put 0 1 2", 8);
    }

    void promise04_aTextThatEndsTooSoonFaultsAtItsLength() {
        String[] tokens = {"put", " 0", " -", " 3", " 1", " -", " 1", " 1"};
        StringBuilder text = new StringBuilder();
        for (int k = 0; k < tokens.length; k++) {
            text.append(tokens[k]);
            fault(text.toString(), k == tokens.length - 1 ? NONE : text.length());
            fault(text + "  ", k == tokens.length - 1 ? NONE : text.length() + 2);
            fault("all;" + text, k == tokens.length - 1 ? NONE : text.length() + 4);
        }
        for (String begun : new String[] {"unit", "unit ", "unit 0", "unit 0 ", "copy", "copy  ", "copy 5", "copy 5 "}) {
            fault(begun, begun.length());
        }
    }

    void promise04_aClauseThatASemicolonCutsOffFaultsThere() {
        for (String begun : new String[] {"put", "put 0", "put 0 1", "put 0 1 1", "put 0 1 1 1", "put 0 1 1 1 -",
            "unit", "unit 0", "copy", "copy 0"}) {
            fault(begun + ";all", begun.length());
            fault(begun + " ;", begun.length() + 1);
        }
    }

    void promise04_aTokenBehindAWholeClauseIsTheFault() {
        fault("all 0", 4);
        fault("put 0 1 1 1 1 1", 14);
        fault("put 0 1 1 1 1 -", 14);
        fault("unit 0 1 2", 9);
        fault("copy 0 1 2", 9);
        fault("copy 0 1 all", 9);
        fault("all" + (char) 0, 3);
    }

    void promise04_blanksMayStandAheadOfEachTokenAndBehindTheLast() {
        fault("  put  0  -  1  3  -  5  1  ;  all  ", NONE);
        fault("  unit   0   23  ;   copy   5   0   ", NONE);
        fault("all" + " ".repeat(197), NONE);
        fault(" ".repeat(197) + "all", NONE);
        fault(" ".repeat(190) + "unit 0 1", NONE);
    }

    void promise04_blanksAreNeededOnlyBetweenLettersOrDigits() {
        fault("put0 1 1 1 1", NONE);
        fault("put0-1-1-1-1;unit0 1;copy0 1;all", NONE);
        fault("put0 1 1 1 1unit0 0", 12);
        fault("all;all", NONE);
        fault("copy01", 6);
        fault("put 0 11 1 1", 12);
    }

    void promise04_aBlankCutsATokenInTwo() {
        fault("a ll", 0);
        fault("al l", 0);
        fault("unit 0 2 3", 9);
        fault("put 0 1 1 1 1 3", 14);
    }

    void promise04_only32IsABlank() {
        for (int letter : new int[] {9, 10, 11, 12, 13, 0, 28, 31, 133, 160}) {
            String sign = String.valueOf((char) letter);
            fault("all" + sign, 3);
            fault(sign + "all", 0);
            fault("unit" + sign + "0 0", 4);
            fault("all;" + sign + "all", 4);
        }
    }

    void promise04_aFaultMayBeAtThe200thLetter() {
        fault("all" + " ".repeat(196) + ";", 200);
        fault("all" + " ".repeat(196) + "x", 199);
        fault(" ".repeat(199) + "x", 199);
        fault("a".repeat(200), 0);
        fault("all" + "1".repeat(197), 3);
    }

    void promise04_toAskForTheFaultChangesNothing() {
        lets("no fault", NONE, QuaternionDesk::fault);
        lets("a fault", 32, d -> {
            busy(d);
            d.write('x');
        }, QuaternionDesk::fault);
        lets("an empty text", 0, d -> d.set(0, 2, 0, 0, 0), QuaternionDesk::fault);
    }

    // ---- desk

    private void desk(String text, int want) {
        write(x, text);
        due("desk of '" + text + "'", x.desk(), want);
    }

    void promise05_anEmptyTextIsRefused() {
        lets("empty", NOT, d -> {
            busy(d);
            d.erase();
        }, QuaternionDesk::desk);
        lets("blanks", NOT, d -> {
            busy(d);
            d.erase();
            write(d, "   ");
        }, QuaternionDesk::desk);
    }

    void promise05_aTextWithAFaultIsRefusedAndChangesNothing() {
        for (String behind : new String[] {" 1", ";", ";foo", ";put 0 1 1 1 2", ";unit 0 24", " all"}) {
            lets("behind clauses '" + behind + "'", NOT, d -> {
                busy(d);
                write(d, behind);
            }, QuaternionDesk::desk);
        }
    }

    void promise05_aTextOf25ClausesIsRefused() {
        lets("25 clauses", NOT, d -> {
            d.set(0, 2, 0, 0, 0);
            d.keep(0);
            write(d, "all;".repeat(24) + "all");
        }, QuaternionDesk::desk);
    }

    void promise05_oneClauseIsOne() {
        desk("all", 1);
    }

    void promise05_all24ClausesAreDone() {
        x.set(1, 4, 0, 0, 0);
        desk("all;".repeat(22) + "unit 0 0;unit 5 23", 24);
        dueSlot(0, 2, 0, 0, 0);
        dueSlot(1, 0, 0, 0, 0);
        dueSlot(5, -2, 0, 0, 0);
    }

    void promise05_aFullTextIsDone() {
        desk("unit 0 1;" + " ".repeat(183) + "unit 5 2", 2);
        dueSlot(0, 1, 1, 1, 1);
        dueSlot(5, 1, 1, 1, -1);
    }

    void promise05_allEmptiesEachSlot() {
        for (int slot = 0; slot < 6; slot++) {
            x.set(slot, 24, 4, 2, -2);
        }
        desk("all", 1);
        for (int slot = 0; slot < 6; slot++) {
            dueSlot(slot, 0, 0, 0, 0);
        }
    }

    void promise05_putGivesTheLeastAndTheGreatestNumbers() {
        desk("put 0 24 4 2 2;put 1 -24 -4 -2 -2;put 2 0 24 0 0;put 3 0 0 -24 0;put 4 0 0 0 -24;put 05 01 03 -05 -01", 6);
        dueSlot(0, 24, 4, 2, 2);
        dueSlot(1, -24, -4, -2, -2);
        dueSlot(2, 0, 24, 0, 0);
        dueSlot(3, 0, 0, -24, 0);
        dueSlot(4, 0, 0, 0, -24);
        dueSlot(5, 1, 3, -5, -1);
    }

    void promise05_aMinusIsForItsOwnNumberAlone() {
        desk("put 0 -1 1 1 1;put 1 1 -1 1 1;put 2 1 1 -1 1;put 3 1 1 1 -1;put 4 - 0 - 2 4 - 6", 5);
        dueSlot(0, -1, 1, 1, 1);
        dueSlot(1, 1, -1, 1, 1);
        dueSlot(2, 1, 1, -1, 1);
        dueSlot(3, 1, 1, 1, -1);
        dueSlot(4, 0, -2, 4, -6);
    }

    void promise05_minus0Is0() {
        desk("unit 0 0;put 0 -0 - 0 -00 -0", 2);
        dueSlot(0, 0, 0, 0, 0);
        due("filled", x.count(0), 0);
    }

    void promise05_unitGivesEachOfThe24() {
        for (int unit = 0; unit < 24; unit++) {
            desk("unit 5 " + unit, 1);
            dueSlot(5, x.unit(unit, 0), x.unit(unit, 1), x.unit(unit, 2), x.unit(unit, 3));
        }
    }

    void promise05_copyGivesWhatTheSlotHasThen() {
        x.set(3, 4, 0, 0, 0);
        desk("copy 0 3;unit 3 0;copy 1 3;copy 2 5;put 5 6 0 0 0;copy 4 4", 6);
        dueSlot(0, 4, 0, 0, 0);
        dueSlot(1, 2, 0, 0, 0);
        dueSlot(2, 0, 0, 0, 0);
        dueSlot(5, 6, 0, 0, 0);
        dueSlot(3, 2, 0, 0, 0);
    }

    void promise05_copyOfASlotToItselfLetsItBe() {
        x.set(5, 3, 1, 1, 1);
        desk("copy 5 5;copy 0 5;copy 5 0;copy 0 0", 4);
        dueSlot(5, 3, 1, 1, 1);
        dueSlot(0, 3, 1, 1, 1);
    }

    void promise05_clausesAreDoneInTheirOrder() {
        x.set(0, 2, 0, 0, 0);
        desk("unit 1 1;all;copy 2 1;put 3 4 0 0 0;put 3 6 0 0 0;copy 4 3;unit 3 23", 7);
        dueSlot(0, 0, 0, 0, 0);
        dueSlot(1, 0, 0, 0, 0);
        dueSlot(2, 0, 0, 0, 0);
        dueSlot(3, -2, 0, 0, 0);
        dueSlot(4, 6, 0, 0, 0);
    }

    void promise05_aTextIsDoneAsItIsWhateverStoodThereBefore() {
        String[] clauses = {"all", "put 1 3 1 1 1", "unit 1 23", "copy 1 0"};
        int[][] wants = {{0, 0, 0, 0}, {3, 1, 1, 1}, {-2, 0, 0, 0}, {4, 0, 0, 0}};
        for (String first : clauses) {
            for (int k = 0; k < clauses.length; k++) {
                fresh();
                desk(first, 1);
                x.set(0, 4, 0, 0, 0);
                x.set(1, 5, 1, 1, 1);
                desk(clauses[k], 1);
                dueSlot(1, wants[k][0], wants[k][1], wants[k][2], wants[k][3]);
                dueSlot(0, k == 0 ? 0 : 4, 0, 0, 0);
            }
        }
    }

    void promise05_aLongerTextAheadLeavesNothingBehind() {
        desk("put 0 3 1 1 1;put 1 3 1 1 1;unit 2 5", 3);
        x.set(1, 4, 0, 0, 0);
        x.set(2, 4, 0, 0, 0);
        desk("copy 0 5", 1);
        dueSlot(0, 0, 0, 0, 0);
        dueSlot(1, 4, 0, 0, 0);
        dueSlot(2, 4, 0, 0, 0);
    }

    void promise05_whatWasThereStays() {
        for (int slot = 0; slot < 6; slot++) {
            x.set(slot, 2 * slot + 2, 0, 0, 0);
        }
        desk("put 1 1 1 1 1;unit 3 9;copy 5 0", 3);
        dueSlot(0, 2, 0, 0, 0);
        dueSlot(1, 1, 1, 1, 1);
        dueSlot(2, 6, 0, 0, 0);
        dueSlot(3, 0, 2, 0, 0);
        dueSlot(4, 10, 0, 0, 0);
        dueSlot(5, 2, 0, 0, 0);
    }

    void promise05_theTextIsEmptyThen() {
        desk("all", 1);
        due("letters", x.count(3), 0);
        due("desk again", x.desk(), NOT);
        due("the first letter", x.write('a'), 1);
    }

    void promise05_nothingIsKeptBehindAText() {
        busy(x);
        x.desk();
        dueEach(0, x.count(5), x.count(6));
        dueEach(NOT, x.back(0), x.back(1));
    }

    void promise05_nothingCanBeUndoneBehindAText() {
        busy(x);
        x.desk();
        due("how many", x.count(2), 0);
        due("undo", x.undo(), NOT);
        x.set(0, 2, 0, 0, 0);
        due("one again", x.undo(), 0);
    }

    void promise05_talliesAreAllMissingBehindAText() {
        busy(x);
        x.tally(2, 6);
        x.desk();
        due("ints", x.count(4), 0);
        dueEach(NULL, x.drop(0), x.drop(1), x.drop(2), x.load(0, 0, 0), x.work(2, 0, 0, 0));
    }

    void promise05_theLatestIsLetBe() {
        busy(x);
        due("ahead", x.latest(), 14);
        x.desk();
        due("behind", x.latest(), 14);
    }

    void promise05_aTextThatChangesNoNumberEndsAllTheSame() {
        x.set(0, 2, 0, 0, 0);
        x.keep(0);
        x.tally(0, 1);
        desk("copy 0 0", 1);
        dueEach(0, x.count(2), x.count(4), x.count(5));
    }
}
