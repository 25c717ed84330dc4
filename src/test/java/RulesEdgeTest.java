/** The edges of promises 13 and 14: the tape, and the text that tells the rules. */
public final class RulesEdgeTest extends Edge {
    public static void main(String[] args) throws Exception {
        new RulesEdgeTest().run(13, 14);
    }

    // ---- 13: feed

    void p13_nIs1To8() {
        due(new HeartHours(), 1, "feed", 0, 1);
        due(new HeartHours(), 8, "feed", 0, 8);
        refused(BAD, "feed", 0, 0);
        refused(BAD, "feed", 0, 9);
        refused(BAD, "feed", 0, -1);
        refused(BAD, "feed", 0, LOWEST);
        refused(BAD, "feed", 0, HIGHEST);
    }

    void p13_theLowestByteIsFirst() {
        HeartHours x = new HeartHours();
        // X can't stand anywhere, so the fault tells its place
        due(x, 2, "feed", 'X' | ' ' << 8, 2);
        due(x, -100, "rules");
        due(x, 2, "feed", ' ' | 'X' << 8, 2);
        due(x, -101, "rules");
    }

    void p13_bytesAboveNAreLeftOut() {
        HeartHours x = new HeartHours();
        due(x, 1, "feed", 0x5858585858585820L, 1);
        due(x, 8, "feed", 0x5820202020202020L, 7);
        due(x, 0, "rules");
        due(x, 8, "feed", 0x5820202020202020L, 8);
        due(x, -107, "rules");
    }

    void p13_theHighestByteMayBeBelow0() {
        HeartHours x = new HeartHours();
        due(x, 8, "feed", Long.MIN_VALUE | 0x20202020202020L, 8);
        due(x, -107, "rules");
        due(x, 8, "feed", -1L, 8);
        due(x, -100, "rules");
    }

    /** THE TAPE has so many bytes, all blanks. */
    private static HeartHours taped(int bytes) {
        HeartHours x = two();
        feedText(x, times(bytes, " "));
        return x;
    }

    void p13_theTapeTakes200AtMost() {
        due(taped(192), 200, "feed", 0, 8);
        due(taped(199), 200, "feed", 0, 1);
        due(taped(200), 200, "many", 5);
        still(() -> taped(199), FULL, "feed", 'X', 2);
        still(() -> taped(193), FULL, "feed", 'X', 8);
        still(() -> taped(200), FULL, "feed", 'X', 1);
        still(() -> taped(200), FULL, "feed", 'X', 8);
    }

    void p13_whatFitsIsTakenBehindWhatDidNot() {
        HeartHours x = taped(198);
        due(x, FULL, "feed", 'X' | 'X' << 8 | 'X' << 16, 3);
        due(x, 200, "feed", ' ' | ' ' << 8, 2);
        due(x, 0, "rules");
    }

    void p13_badIsNamedAheadOfFull() {
        still(() -> taped(200), BAD, "feed", 0, 0);
        still(() -> taped(200), BAD, "feed", 0, 9);
    }

    void p13_rulesMakesRoomAgain() {
        HeartHours x = taped(200);
        due(x, 0, "rules");
        due(x, 8, "feed", 0, 8);
    }

    // ---- 14: rules

    /** A text on a new TAPE is taken: so many RULES. */
    private void taken(int rules, String text) {
        HeartHours x = lone(3, 10, 5);
        tell(x, "guild wait; guild come;");
        feedText(x, text);
        same("rules of " + text, x.rules(), rules);
        due(x, rules, "many", 1);
        due(x, 0, "many", 5);
    }

    /** A text has its FAULT at a place: THE TAPE is used up, and nothing else is changed. */
    private void fault(int place, String text) {
        HeartHours x = busyWithoutTape();
        feedText(x, text);
        same("rules of " + text, x.rules(), -100 - place);
        due(x, 0, "many", 5);
        alike("rules of " + text, x, busyWithoutTape());
    }

    /** Whether a condition holds for a doctor: number 1, GIFT 5, LATE 7, MOOD 4, HOUR 2. */
    private void holds(boolean so, String condition) {
        HeartHours x = quiet(4);
        after(x, 2);
        x.guild(1, 60, 0, 0);
        x.guild(3, 15, 5, 0);
        feedText(x, "guild if " + condition + " leave; guild wait;");
        same("rules if " + condition, x.rules(), 2);
        same("whether " + condition, x.guildOf(1, 8), so ? 2 : 1);
    }

    void p14_anEmptyTextTellsNoRules() {
        taken(0, "");
        taken(0, " ");
        taken(0, times(200, " "));
    }

    void p14_rulesComeInPlaceOfAll() {
        HeartHours x = lone(3, 10, 5);
        same("rules", tell(x, "guild wait; guild leave; guild come;"), 3);
        same("rules", tell(x, "book leave;"), 1);
        due(x, 1, "many", 1);
        due(x, 0, "guildOf", 0, 8);
        same("rules", tell(x, "doctor leave;"), 1);
        due(x, 2, "guildOf", 0, 8);
        due(x, 0, "rules");
        due(x, 0, "many", 1);
        due(x, 0, "guildOf", 0, 8);
    }

    void p14_theTapeIsUsedUpAndBeginsAgain() {
        HeartHours x = lone(3, 10, 5);
        feedText(x, "guild wa");
        due(x, -106, "rules");
        feedText(x, "it;");
        due(x, -100, "rules");
        feedText(x, "guild wait;");
        due(x, 1, "rules");
    }

    void p14_eightRulesAreTaken() {
        taken(8, times(8, "book come;"));
        taken(8, times(8, "book come;") + times(120, " "));
    }

    void p14_theFirstNameOfTheNinthRuleIsAFault() {
        fault(80, times(8, "book come;") + "book come;");
        fault(82, times(8, "book come;") + "  guild");
        fault(80, times(8, "book come;") + ";");
        fault(80, times(8, "book come;") + "7");
    }

    void p14_anEarlierFaultIsToldAheadOfTheNinthRule() {
        fault(75, times(7, "book come;") + "book 7;book come;");
    }

    void p14_theEighthRuleTells() {
        HeartHours x = lone(3, 10, 5);
        same("rules", tell(x, times(7, "book come;") + "doctor leave;"), 8);
        due(x, 2, "guildOf", 0, 8);
    }

    void p14_aTextMayFillTheTape() {
        taken(1, times(189, " ") + "guild wait;");
        taken(1, "guild wait;" + times(189, " "));
        fault(199, times(189, " ") + "guild wait,");
        fault(200, times(190, " ") + "guild wait");
        fault(200, times(195, " ") + "guild");
        fault(200, "guild wait" + times(190, " "));
    }

    void p14_bytesOfTheTextAheadDoNotCount() {
        HeartHours x = lone(3, 10, 5);
        same("rules", tell(x, "guild if 1=12345"), -111);
        same("rules", tell(x, "guild if 1=1234"), -115);
        same("rules", tell(x, "guilds"), -100);
        same("rules", tell(x, "guild"), -105);
        same("rules", tell(x, "guild come; book come;"), 2);
        same("rules", tell(x, "guild come;"), 1);
        fault(200, times(188, " ") + "guild if 1=1");
    }

    void p14_aLongConditionFillsTheTape() {
        String ors = "guild if " + times(26, "1=2 or ") + "1=1";
        taken(1, ors + " wait;");
        HeartHours x = lone(3, 10, 5);
        tell(x, ors + " wait;");
        due(x, 1, "guildOf", 0, 8);
        tell(x, "guild if " + times(22, "1=1 and ") + "1=2 wait;");
        due(x, 0, "guildOf", 0, 8);
        tell(x, "guild if " + times(45, "not ") + "1=2 wait;");
        due(x, 1, "guildOf", 0, 8);
        tell(x, "guild if " + times(44, "not ") + "1=2 wait;");
        due(x, 0, "guildOf", 0, 8);
    }

    void p14_eachKindIsAName() {
        for (String kind : new String[] {"guild", "baker", "lawyer", "doctor", "book", "candle"}) taken(1, kind + " come;");
        fault(0, "come come;");
        fault(0, "if come;");
        fault(0, "hour come;");
        fault(0, "5 come;");
        fault(0, ";");
        fault(0, "(guild come);");
    }

    void p14_eachDoingIsAName() {
        for (String doing : new String[] {"come", "wait", "leave"}) taken(1, "book " + doing + ";");
        fault(5, "book book;");
        fault(5, "book not;");
        fault(5, "book mood;");
        fault(5, "book 1;");
        fault(5, "book ;");
    }

    void p14_namesAreAsLongAsTheyGo() {
        fault(0, "guildcome;");
        fault(0, "guil come;");
        fault(0, "guilds come;");
        fault(6, "guild comes;");
        fault(6, "guild com;");
        fault(6, "guild i f 1=1 come;");
        fault(6, "guild ifhour=1 come;");
        fault(9, "guild if nothour=1 come;");
        fault(16, "guild if hour=1 an hour=1 come;");
        fault(9, "guild if hours=1 come;");
        fault(9, "guild if g=1 come;");
    }

    void p14_lettersAreAToZ() {
        fault(5, "guild`come;");
        fault(5, "guild{come;");
        fault(0, "guilda come;");
        fault(0, "guildz come;");
        fault(0, "Guild come;");
        fault(5, "guildZ come;");
        fault(6, "guild Come;");
        fault(6, "guild " + (char) ('c' + 128) + "ome;");
    }

    void p14_digitsAre0To9() {
        fault(16, "guild if hour=12/ come;");
        fault(16, "guild if hour=12: come;");
        taken(1, "guild if hour=0 come;");
        taken(1, "guild if hour=9 come;");
        fault(14, "guild if hour=-1 come;");
        fault(14, "guild if hour=+1 come;");
        fault(15, "guild if hour=1.5 come;");
    }

    void p14_onlyByte32IsABlank() {
        taken(1, "   guild   come   ;   ");
        taken(1, "guild come;");
        for (int b : new int[] {0, 1, 9, 10, 13, 31, 33, 127, 128, 160, 255}) {
            fault(5, "guild" + (char) b + "come;");
            fault(0, (char) b + "guild come;");
            fault(11, "guild come;" + (char) b);
        }
    }

    void p14_blanksStandElsewhereAsOneLikes() {
        taken(1, "guild if(hour<3)come;");
        taken(1, "guild  if  (  hour  <  3  )  come  ;");
        taken(1, "guild if 3<hour come;");
        taken(1, "guild if hour<3come;");
        taken(1, "guild if 1=1and 2=2or 3=3come;");
        taken(2, "guild come;book come;");
    }

    void p14_blanksPartNamesAndNumbers() {
        fault(11, "guild if 1 2=12 come;");
        fault(9, "guild if ho ur=1 come;");
    }

    void p14_numbersHave1To4Digits() {
        taken(1, "guild if number=5 come;");
        taken(1, "guild if number=0005 come;");
        taken(1, "guild if number=9999 come;");
        fault(16, "guild if number=00005 come;");
        fault(16, "guild if number=10000 come;");
        fault(9, "guild if 12345=1 come;");
        fault(16, "guild if number=99999999999999999999 come;");
        fault(17, "guild if number= 12345");
    }

    void p14_aNumberOfMoreDigitsStandsNowhere() {
        fault(0, "12345");
        fault(6, "guild 12345;");
        fault(10, "guild come12345;");
    }

    void p14_numbersAre0To9999() {
        holds(true, "0=0000");
        holds(true, "9998<9999");
        holds(false, "9999<9999");
        holds(true, "number<9999");
        holds(true, "0009=9");
        holds(true, "0010>9");
        holds(false, "number<0");
    }

    void p14_threeMayBeOpenWithinOneAnother() {
        taken(1, "guild if (((1=1))) come;");
        taken(1, "guild if ((1=1) and ((1=1) or (1=1))) come;");
        taken(1, "guild if (1=1) and (1=1) and (1=1) and (1=1) and (1=1) come;");
        taken(1, "guild if (((1=1))) or (((1=1))) come;");
        taken(2, "guild if (((1=1))) come; guild if (((1=1))) come;");
    }

    void p14_theFourthOpenOneIsAFault() {
        fault(12, "guild if ((((1=1)))) come;");
        fault(16, "guild if ( ( (  (1=1)))) come;");
        fault(16, "guild if (((not (1=1)))) come;");
        fault(19, "guild if (((1=1 or (1=1)))) come;");
        fault(19, "guild if (1=1 or (((1=1)))) come;");
        fault(12, "guild if ((((");
    }

    void p14_whatWasOpenedMustBeClosed() {
        fault(14, "guild if (1=1 come;");
        fault(13, "guild if (1=1");
        fault(12, "guild if 1=1) come;");
        fault(14, "guild if (1=1)) come;");
        fault(10, "guild if () come;");
        fault(9, "guild if ) come;");
    }

    void p14_theEndIsTheFaultIfMoreMustCome() {
        fault(5, "guild");
        fault(6, "guild ");
        fault(8, "guild if");
        fault(12, "guild if not");
        fault(10, "guild if (");
        fault(13, "guild if hour");
        fault(14, "guild if hour<");
        fault(15, "guild if hour<3");
        fault(18, "guild if hour<3 or");
        fault(19, "guild if hour<3 and");
        fault(16, "guild if (hour<3");
        fault(17, "guild if (hour<3)");
        fault(20, "guild if hour<3 come");
        fault(10, "guild come");
        fault(13, "guild come   ");
        fault(16, "guild come; book");
    }

    void p14_betweenRulesNothingElseStands() {
        fault(11, "guild come;;");
        fault(10, "guild come, book come;");
        fault(11, "guild come book come;");
        fault(10, "guild come.");
    }

    void p14_aValueIsANumberOrAFact() {
        for (String fact : new String[] {"hour", "gift", "late", "mood", "number"}) {
            taken(1, "guild if " + fact + "=1 come;");
            taken(1, "guild if 1=" + fact + " come;");
        }
        for (String none : new String[] {"guild", "come", "if", "or", "and", "hands", "due", ")", "<", ";"}) {
            fault(9, "guild if " + none + "=1 come;");
            fault(11, "guild if 1=" + none + " come;");
        }
        fault(11, "guild if 1=not 1 come;");
        fault(11, "guild if 1=(1) come;");
    }

    void p14_aComparisonIsWhole() {
        fault(9, "guild if come;");
        fault(9, "guild if =1 come;");
        fault(11, "guild if 1 come;");
        fault(12, "guild if 1= come;");
        fault(14, "guild if hour come;");
        fault(11, "guild if 1 and 1=1 come;");
        fault(12, "guild if (1 ) come;");
        fault(12, "guild if 1=1=1 come;");
    }

    void p14_conditionsAreJoinedByOneName() {
        fault(13, "guild if 1=1 2=2 come;");
        fault(13, "guild if 1=1 not 2=2 come;");
        fault(13, "guild if 1=1 (2=2) come;");
        fault(17, "guild if 1=1 and come;");
        fault(16, "guild if 1=1 or come;");
        fault(17, "guild if 1=1 and or 2=2 come;");
        fault(16, "guild if 1=1 or or 2=2 come;");
        fault(13, "guild if not come;");
        fault(13, "guild if not and 1=1 come;");
        fault(13, "guild if 1=1 if;");
        fault(13, "guild if 1=1 if 1=1 come;");
    }

    void p14_aSignIsOneByte() {
        fault(11, "guild if 1<=2 come;");
        fault(11, "guild if 1==2 come;");
        fault(11, "guild if 1<>2 come;");
        fault(10, "guild if 1!2 come;");
        fault(10, "guild if 1;2 come;");
        fault(10, "guild if 1?2 come;");
        fault(12, "guild if 1< =2 come;");
    }

    void p14_lessAndSameAndMoreAtTheirEdges() {
        holds(true, "6<7");
        holds(false, "7<7");
        holds(false, "8<7");
        holds(false, "6=7");
        holds(true, "7=7");
        holds(false, "8=7");
        holds(false, "6>7");
        holds(false, "7>7");
        holds(true, "8>7");
    }

    void p14_theFactsAreAsToldToTheGuild() {
        holds(true, "hour=2");
        holds(true, "gift=5");
        holds(true, "late=7");
        holds(true, "mood=4");
        holds(true, "number=1");
        holds(false, "hour=1");
        holds(true, "hour<3 and hour>1");
        holds(true, "late<8 and late>6");
    }

    void p14_numbersAreReadByTens() {
        HeartHours x = lone(1, 0, 0);
        x.heart(1, 99);
        String[] so = {"late=99", "late=099", "late=0099", "late>98", "late<100", "late<0100", "1000>999", "0999<1000"};
        for (String condition : so) {
            tell(x, "guild if " + condition + " leave; guild wait;");
            same("whether " + condition, x.guildOf(0, 8), 2);
        }
        x.heart(1, 45);
        tell(x, "guild if late=45 leave;");
        due(x, 2, "guildOf", 0, 8);
    }

    void p14_allAndSome() {
        holds(true, "1=1 and 2=2");
        holds(false, "1=1 and 2=1");
        holds(false, "1=2 and 2=2");
        holds(false, "1=2 and 2=1");
        holds(true, "1=1 or 2=2");
        holds(true, "1=1 or 2=1");
        holds(true, "1=2 or 2=2");
        holds(false, "1=2 or 2=1");
        holds(false, "1=2 or 2=1 or 3=1");
        holds(true, "1=1 and 2=2 and 3=3");
    }

    void p14_andBindsMoreThanOr() {
        holds(true, "1=1 or 1=2 and 1=2");
        holds(false, "(1=1 or 1=2) and 1=2");
        holds(true, "1=2 and 1=2 or 1=1");
        holds(false, "1=2 and (1=2 or 1=1)");
        holds(true, "1=1 and 1=1 or 1=2 and 1=2");
    }

    void p14_notBindsMoreThanAndAndOr() {
        holds(true, "not 1=1 or 1=1");
        holds(false, "not (1=1 or 1=1)");
        holds(false, "not 1=2 and 1=2");
        holds(true, "not (1=2 and 1=2)");
        holds(true, "not not 1=1");
        holds(false, "not not not 1=1");
        holds(true, "not not not (not 1=1)");
        holds(true, "1=1 and not 1=2");
    }

    void p14_innerOnesHoldByThemselves() {
        holds(true, "((1=2 or (1=1)) and not (1=2))");
        holds(false, "not ((1=2 or (1=1)) and not (1=2))");
        holds(true, "(1=1) and (1=2 or (1=1 and (1=2 or 1=1)))");
    }

    void p14_theFirstRuleThatHoldsTells() {
        HeartHours x = lone(3, 10, 5);
        tell(x, "guild if 1=2 come; lawyer wait; doctor leave;");
        due(x, 1, "guildOf", 0, 8);
        tell(x, "book come; doctor leave; guild wait;");
        due(x, 2, "guildOf", 0, 8);
    }

    void p14_aRuleIsForItsKindAndThoseUnderIt() {
        String[] kinds = {"guild", "baker", "lawyer", "doctor", "book", "candle"};
        int[] tells = {0b111110, 0b000010, 0b001100, 0b001000, 0b110000, 0b100000};
        for (int rule = 0; rule < 6; rule++) {
            for (int kind = 1; kind <= 5; kind++) {
                HeartHours x = lone(kind, 10, 5);
                tell(x, kinds[rule] + " leave;");
                due(x, (tells[rule] >> kind & 1) * 2, "guildOf", 0, 8);
            }
        }
    }

    void p14_theFaultIsTheFirstOne() {
        fault(6, "guild X come; book Y;");
        fault(0, "X guild come 12345");
        fault(13, "guild if 1=1 X come;;");
    }
}
