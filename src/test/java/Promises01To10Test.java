/** The room and its text: promises 1 to 10, with the terms of THE ROOM, TOKENS, FAULTS and MINUTES. */
public final class Promises01To10Test extends Cases {
    private static final String LETTER = "noon 9;hand 0;court 1;letter 0 tongue 0";
    private static final String THREE_HANDS = "noon 9;hand 0;hand 1;hand 2;";
    private static final String FOUR_COURTS = "noon 9;court 1;court 2;court 3;court 4;";
    private static final String SIX_LETTERS = "noon 9;court 1;" + "letter 0 tongue 0;".repeat(6);

    public static void main(String[] args) {
        run(Promises01To10Test.class, 1, 10);
    }

    /** A text whose fault is at the sign |, which isn't part of it. */
    private static void fault(int kind, String marked) {
        BlackCabinet x = new BlackCabinet();
        due("room of '" + marked + "'", read(x, marked.replace("|", "")), -30 - kind);
        due("kind in '" + marked + "'", x.fault(0), kind);
        due("place in '" + marked + "'", x.fault(1), marked.indexOf('|'));
    }

    private static void lines(int lines, String text) {
        due("room of '" + text + "'", read(new BlackCabinet(), text), lines);
    }

    // ---- 1: a new object

    static void promise1_countsOfANewObject() {
        dueAll(new BlackCabinet()::count, 0, 0, 0, 0, 0, 0, 0, 0, 50, 0, 0, 0, 0);
    }

    static void promise1_noLettersHandsCourtsName() {
        BlackCabinet x = new BlackCabinet();
        due(x.letter(0, 0), -2);
        due(x.hand(0, 0), -2);
        due(x.court(0), -2);
        due(x.takes(0, 0), -2);
        due(x.copies(0, 0), -2);
        due(x.name(0), -1);
    }

    static void promise1_emptySetsHaveAnswers() {
        BlackCabinet x = new BlackCabinet();
        dueAll(x::best, 0, 0, 0, 0);
        dueAll(x::rule, 0, 0, 0);
        due(x.slept(0), 1);
        due(x.sleeper(0), 0);
        due(x.quiet(0), 10000);
        due(x.now(), 5000);
    }

    static void promise1_thereIsNone() {
        due(BlackCabinet.NONE, -1);
    }

    static void promise1_the512thCallIsAnswered() {
        BlackCabinet x = new BlackCabinet();
        for (int i = 1; i <= 511; i++) {
            due(x.seed(i), i - 1);
        }
        due(x.undo(10), 0);
    }

    // ---- 2: feed

    static void promise2_twentyBytesMoreEach() {
        BlackCabinet x = new BlackCabinet();
        due(x.feed(0, 0, 0, 0, 0), 20);
        due(x.feed(0, 0, 0, 0, 0), 40);
        due(x.count(10), 40);
    }

    static void promise2_theHighestByteOfEachIntComesFirst() {
        BlackCabinet x = new BlackCabinet();
        // "noon" " 5;h" "and " "3 2 " "1 0;"
        x.feed(0x6e6f6f6e, 0x20353b68, 0x616e6420, 0x33203220, 0x3120303b);
        due(x.room(20), 2);
        due(x.count(0), 5);
        due(x.hand(0, 0), 15);
    }

    static void promise2_bytesAbove127() {
        BlackCabinet x = new BlackCabinet();
        due(x.feed(-1, -1, -1, -1, -1), 20);
        due(x.room(20), -31);
        due(x.fault(1), 0);
    }

    static void promise2_theyComeBehindThoseThatAreThere() {
        BlackCabinet x = new BlackCabinet();
        feed(x, "noon 7;court 1;     ");
        feed(x, "prior 9;");
        due(x.room(28), 3);
        due(x.count(8), 9);
    }

    static void promise2_nineHundredAreNotTooMany() {
        BlackCabinet x = new BlackCabinet();
        for (int i = 1; i <= 45; i++) {
            due(x.feed(0, 0, 0, 0, 0), 20 * i);
        }
        due(x.count(10), 900);
    }

    static void promise2_moreThan900() {
        BlackCabinet x = new BlackCabinet();
        feed(x, "noon 7;" + " ".repeat(886) + "prior 9");
        due(x.feed(0x3b3b3b3b, 0x3b3b3b3b, 0x3b3b3b3b, 0x3b3b3b3b, 0x3b3b3b3b), -5);
        due(x.count(10), 900);
        due(x.room(900), -32);
        due(x.fault(1), 900);
    }

    static void promise2_anEmptiedTapeTakesBytesAgain() {
        BlackCabinet x = new BlackCabinet();
        feed(x, " ".repeat(900));
        due(x.feed(0, 0, 0, 0, 0), -5);
        x.room(0);
        due(x.feed(0, 0, 0, 0, 0), 20);
    }

    // ---- 3: room

    static void promise3_nBelow0() {
        BlackCabinet x = new BlackCabinet();
        feed(x, "noon 7;");
        due(x.room(-1), -3);
        due(x.room(Integer.MIN_VALUE), -3);
    }

    static void promise3_nAboveWhatThereIs() {
        BlackCabinet x = new BlackCabinet();
        due(x.room(1), -3);
        feed(x, "noon 7;");
        due(x.room(21), -3);
        due(x.room(Integer.MAX_VALUE), -3);
    }

    static void promise3_theTapeStaysWithSuchAnN() {
        BlackCabinet x = new BlackCabinet();
        feed(x, "noon 7;");
        x.room(-1);
        due(x.count(10), 20);
        x.room(21);
        due(x.count(10), 20);
        due(x.room(7), 1);
    }

    static void promise3_allThatThereIs() {
        BlackCabinet x = new BlackCabinet();
        feed(x, "noon 7;prior 9;");
        due(x.room(20), 2);
    }

    static void promise3_noBytesAtAll() {
        BlackCabinet x = new BlackCabinet();
        due(x.room(0), -32);
        due(x.fault(1), 0);
        feed(x, "noon 7;");
        due(x.room(0), -32);
        due(x.fault(1), 0);
    }

    static void promise3_theFirstNBytesAlone() {
        BlackCabinet x = new BlackCabinet();
        feed(x, "noon 77;court 1;");
        due(x.room(8), 1);
        due(x.count(0), 77);
        due(x.count(2), 0);
        feed(x, "noon 77;");
        due(x.room(7), -32);
        due(x.fault(1), 7);
    }

    static void promise3_aTokenEndsWithTheFirstNBytes() {
        BlackCabinet x = new BlackCabinet();
        feed(x, "noon 1000;");
        due(x.room(8), -32);
        due(x.fault(1), 8);
        feed(x, "noon 9;courts 1;");
        due(x.room(12), -32);
        due(x.fault(1), 12);
    }

    static void promise3_theTapeIsEmptyThen() {
        BlackCabinet x = new BlackCabinet();
        feed(x, "noon 77;court 1;");
        x.room(8);
        due(x.count(10), 0);
        due(x.room(8), -3);
    }

    static void promise3_theTapeIsEmptyAlsoWithAFault() {
        BlackCabinet x = new BlackCabinet();
        feed(x, "spy");
        x.room(3);
        due(x.count(10), 0);
    }

    static void promise3_aTextOf900Bytes() {
        String text = "noon 7;" + " ".repeat(885) + "prior 9;";
        BlackCabinet x = new BlackCabinet();
        due(text.length(), 900);
        due(read(x, text), 2);
        due(x.count(8), 9);
    }

    static void promise3_aTextOf900BytesInTokens() {
        lines(2, "noon 7;opens:" + "1+".repeat(442) + "11;");
        fault(2, "noon 7;opens:" + "1+".repeat(443) + "|;");
        fault(2, "|" + ";".repeat(900));
        fault(1, "|" + "?".repeat(900));
        fault(2, "|" + "a".repeat(900));
        fault(1, "|" + "1".repeat(900));
    }

    static void promise3_asManyLinesAsAreTold() {
        lines(1, "noon 7;");
        lines(3, "noon 7;prior 1;prior 2;");
        lines(128, "noon 7;" + "name a;".repeat(127));
        due(in(FIRST).count(11), 10);
    }

    static void promise3_allStaysWithAFault() {
        BlackCabinet x = in(FIRST);
        x.byRule();
        x.seed(9);
        x.sleeps(1);
        int found = x.count(5);
        due(read(x, "noon 9;hand 0;hand 0;hand 0;court 1;prior 9;name a;opens:1;letter 0 tongue 0;spy;"), -32);
        dueAll(x::count, 30, 2, 2, 3, 3, found, 1, 1, 50, 3, 0, 10, 3);
        dueAll(what -> x.hand(1, what), 6, 4, 0, 3);
        dueAll(x::name, 17, 4, 23, -1);
        due(x.takes(0, 0), 2);
        due(drawn(x), 9);
    }

    static void promise3_nothingIsReadThen() {
        BlackCabinet x = in("noon 9;hand 0;court 1;letter 0 tongue 0;copies:1;shows:100;");
        due(x.byRule(), 1);
        due(x.count(5), 1);
        read(x, "noon 9;hand 0;court 1;letter 0 tongue 0;copies:1;shows:100;");
        due(x.count(4), 0);
        due(x.count(5), 0);
        due(x.count(6), 0);
        due(x.byRule(), 1);
    }

    static void promise3_allHandsAreAwakeThen() {
        BlackCabinet x = in("noon 9;hand 0;hand 0;");
        x.sleeps(0);
        x.sleeps(1);
        read(x, THREE_HANDS);
        due(x.count(7), 7);
    }

    static void promise3_xIs0Then() {
        BlackCabinet x = in("noon 9;");
        x.seed(77);
        read(x, "noon 9;");
        due(x.seed(1), 0);
    }

    static void promise3_nothingCanBeUndoneThen() {
        BlackCabinet x = in(FIRST);
        x.sleeps(0);
        x.sleeps(0);
        read(x, FIRST);
        due(x.count(9), 0);
        due(x.undo(1), -3);
    }

    static void promise3_whatWasToldAheadIsGone() {
        BlackCabinet x = in(FIRST + "opens:7;copies:7;mends:7;shows:7;");
        read(x, "noon 5;hand 3;court 9;letter 0 tongue 3 pages 2;");
        dueAll(x::count, 5, 1, 1, 1, 0, 0, 0, 1, 50, 0, 0, 4, 0);
        dueAll(what -> x.letter(0, what), 0, 3, 2, 1, 0, 0, 0, 0, 0);
        dueAll(what -> x.hand(0, what), 8, 0, 1, 1);
        dueAll(what -> x.takes(0, what), 2, 3, 10);
        due(x.copies(0, 0), 10);
        due(x.court(1), -2);
        due(x.name(0), -1);
    }

    static void promise3_skillsAndReadersToldAheadAreGone() {
        BlackCabinet x = in("noon 300;" + "hand 0 1 2 3 skill 9;".repeat(3) + "court 1;" + "letter 0 tongue 0 pages 9 worth 9 seal 9;".repeat(6));
        due(x.best(1), 6);
        read(x, "noon 99;hand 1;hand 0;court 1;letter 0 tongue 0;");
        dueAll(what -> x.hand(0, what), 2, 0, 1, 0, -2);
        dueAll(what -> x.hand(1, what), 1, 0, 1, 1, -2);
        due(x.bestAt(0), 10);
        due(x.copies(0, 1), 5);
    }

    static void promise3_lawsToldAheadTakeNoPlace() {
        BlackCabinet x = new BlackCabinet();
        String full = "noon 7;opens:" + "1+".repeat(442) + "11;";
        for (int i = 0; i < 4; i++) {
            due(read(x, full), 2);
        }
        read(x, LETTER + ";opens:1+2;copies:3+4;mends:5+6;shows:7+8;");
        dueAll(what -> x.takes(0, what), 3, 11, 15);
        due(x.copies(0, 0), 7);
    }

    static void promise3_noonIs1To300() {
        due(in("noon 1;").count(0), 1);
        due(in("noon 300;").count(0), 300);
        fault(3, "noon |0;");
        fault(3, "noon |000;");
        fault(3, "noon |301;");
        fault(3, "noon |999;");
    }

    static void promise3_noonIsToldFirst() {
        fault(2, "|court 9;noon 9;");
        fault(2, "|;noon 9;");
        fault(2, "|9;");
    }

    static void promise3_noonIsToldOnce() {
        fault(2, "noon 9;|noon 9;");
        fault(2, "noon 9;court 1;|noon 8;");
        fault(2, "noon |noon 9;");
    }

    static void promise3_aHandReadsTongues0To3() {
        due(in("noon 9;hand 0;").hand(0, 0), 1);
        due(in("noon 9;hand 3;").hand(0, 0), 8);
        fault(3, "noon 9;hand |4;");
        fault(3, "noon 9;hand 0 |4;");
        fault(3, "noon 9;hand 0 1 2 3 |999;");
    }

    static void promise3_aHandReadsOneTongueAtLeast() {
        fault(2, "noon 9;hand|;");
        fault(2, "noon 9;hand |skill 1;");
    }

    static void promise3_aTongueToldTwiceIsNothingMore() {
        due(in("noon 9;hand 2 2;").hand(0, 0), 4);
        due(in("noon 9;hand 0 1 2 3 3 2 1 0;").hand(0, 0), 15);
    }

    static void promise3_skillIs0To9() {
        due(in("noon 9;hand 0 skill 0;").hand(0, 1), 0);
        due(in("noon 9;hand 0 skill 9;").hand(0, 1), 9);
        fault(3, "noon 9;hand 0 skill |10;");
        fault(2, "noon 9;hand 0 skill|;");
    }

    static void promise3_skillIs0Without() {
        due(in("noon 9;hand 0 skill 5;hand 0;").hand(1, 1), 0);
    }

    static void promise3_skillIsToldOnceAndLast() {
        fault(2, "noon 9;hand 0 skill 1 |skill 2;");
        fault(2, "noon 9;hand 0 skill 1 |2;");
    }

    static void promise3_threeHandsAtMost() {
        due(in(THREE_HANDS).count(1), 3);
        fault(4, THREE_HANDS + "|hand 0;");
        fault(4, THREE_HANDS + "|hand");
        fault(4, THREE_HANDS + "court 1;|hand 9;");
    }

    static void promise3_aCourtTellsTheTruthIn0To100() {
        due(in("noon 9;court 0;").court(0), 0);
        due(in("noon 9;court 100;").court(0), 100);
        fault(3, "noon 9;court |101;");
        fault(2, "noon 9;court|;");
        fault(2, "noon 9;court 1 |2;");
    }

    static void promise3_fourCourtsAtMost() {
        due(in(FOUR_COURTS).count(2), 4);
        fault(4, FOUR_COURTS + "|court 5;");
        fault(4, FOUR_COURTS + "|court");
    }

    static void promise3_aLettersCourtIsToldAhead() {
        due(in(FOUR_COURTS + "letter 3 tongue 0;").letter(0, 0), 3);
        fault(3, FOUR_COURTS + "letter |4 tongue 0;");
        fault(3, "noon 9;letter |0 tongue 0;court 1;");
        fault(3, "noon 9;court 1;letter |1 tongue 0;court 1;");
        lines(5, "noon 9;court 1;letter 0 tongue 0;court 2;letter 1 tongue 0;");
    }

    static void promise3_aLettersTongueIs0To3() {
        due(in("noon 9;court 1;letter 0 tongue 0;").letter(0, 1), 0);
        due(in("noon 9;court 1;letter 0 tongue 3;").letter(0, 1), 3);
        fault(3, "noon 9;court 1;letter 0 tongue |4;");
        fault(2, "noon 9;court 1;letter 0|;");
        fault(2, "noon 9;court 1;letter 0 |pages 1;");
        fault(2, "noon 9;court 1;letter |tongue 1;");
        fault(2, "noon 9;court 1;letter 0 tongue|;");
        fault(2, LETTER + " |tongue 1;");
        fault(2, LETTER + " |1;");
    }

    static void promise3_pagesAre1To99() {
        due(in(LETTER + " pages 1;").letter(0, 2), 1);
        due(in(LETTER + " pages 99;").letter(0, 2), 99);
        fault(3, LETTER + " pages |0;");
        fault(3, LETTER + " pages |100;");
    }

    static void promise3_worthIs0To99() {
        due(in(LETTER + " worth 0;").letter(0, 3), 0);
        due(in(LETTER + " worth 99;").letter(0, 3), 99);
        fault(3, LETTER + " worth |100;");
    }

    static void promise3_sealIs0To9() {
        due(in(LETTER + " seal 0;").letter(0, 4), 0);
        due(in(LETTER + " seal 9;").letter(0, 4), 9);
        fault(3, LETTER + " seal |10;");
    }

    static void promise3_signIs0To9() {
        due(in(LETTER + " sign 0;").letter(0, 5), 0);
        due(in(LETTER + " sign 9;").letter(0, 5), 9);
        fault(3, LETTER + " sign |10;");
    }

    static void promise3_aLetterSaysYesOrNo() {
        due(in(LETTER + " says yes;").letter(0, 6), 1);
        due(in(LETTER + " says no;").letter(0, 6), 2);
        fault(2, LETTER + " says|;");
        fault(2, LETTER + " says |maybe;");
        fault(2, LETTER + " says |1;");
        fault(2, LETTER + " |yes;");
    }

    static void promise3_aFlagHasItsNumber() {
        fault(2, LETTER + " pages|;");
        fault(2, LETTER + " worth |pages 1;");
        fault(2, LETTER + " |skill 1;");
    }

    static void promise3_aLetterWithoutFlags() {
        dueAll(what -> in(LETTER + ";").letter(0, what), 0, 0, 1, 1, 0, 0, 0);
    }

    static void promise3_laterOnesOfAFlagsWordStrike() {
        BlackCabinet x = in(LETTER + " pages 9 worth 8 seal 7 sign 6 says yes pages 2 worth 3 seal 4 sign 5 says no;");
        dueAll(what -> x.letter(0, what), 0, 0, 2, 3, 4, 5, 2);
    }

    static void promise3_sixLettersAtMost() {
        due(in(SIX_LETTERS).count(3), 6);
        fault(4, SIX_LETTERS + "|letter 0 tongue 0;");
        fault(4, SIX_LETTERS + "|letter 9");
    }

    static void promise3_priorIs0To100() {
        due(in("noon 9;prior 0;").count(8), 0);
        due(in("noon 9;prior 100;").count(8), 100);
        fault(3, "noon 9;prior |101;");
        fault(2, "noon 9;prior|;");
        fault(2, "noon 9;prior 1|");
    }

    static void promise3_priorIs50Without() {
        BlackCabinet x = in("noon 9;prior 7;");
        read(x, "noon 9;");
        due(x.count(8), 50);
    }

    static void promise3_aNameHas1To8Letters() {
        due(in("noon 9;name q;").count(12), 1);
        due(in("noon 9;name abcdefgh;").count(12), 8);
        fault(2, "noon 9;name |abcdefghi;");
        fault(2, "noon 9;name|;");
    }

    static void promise3_aNameIsAnyWord() {
        due(in("noon 9;name noon;").count(12), 4);
        due(in("noon 9;name name;").count(12), 4);
        due(in("noon 9;name letter;").count(12), 6);
        due(in("noon 9;name skill;").count(12), 5);
        due(in("noon 9;name zzzzzzzz;").name(7), 25);
    }

    static void promise3_aNameIsOneWord() {
        fault(2, "noon 9;name |5;");
        fault(2, "noon 9;name abc |def;");
        fault(2, "noon 9;name abc|5;");
        fault(2, "noon 9;name |(abc);");
    }

    static void promise3_laterLawsStrike() {
        BlackCabinet x = in(LETTER + ";opens:5;copies:5;mends:5;shows:5;opens:1;copies:2;mends:3;shows:4;");
        dueAll(what -> x.takes(0, what), 1, 3, 4);
        due(x.copies(0, 0), 2);
    }

    static void promise3_laterPriorsStrike() {
        due(in("noon 9;prior 1;prior 2;").count(8), 2);
    }

    static void promise3_laterNamesStrike() {
        BlackCabinet x = in("noon 9;name abcd;name xy;");
        due(x.count(12), 2);
        dueAll(x::name, 23, 24, -1);
    }

    static void promise3_lawsMayBeToldAheadOfLetters() {
        due(in("noon 9;opens:pages*3;court 1;letter 0 tongue 0 pages 2;").takes(0, 0), 6);
    }

    static void promise3_sixParenthesesWithinOneAnother() {
        due(in(LETTER + ";opens:((((((7))))));").takes(0, 0), 7);
        fault(4, "noon 9;opens:((((((|(7)))))));");
        fault(4, "noon 9;copies:((1)*(((((|((7))))))));");
        fault(4, "noon 9;mends:1+((((((|(");
    }

    static void promise3_parenthesesBesideOneAnotherAreNotWithin() {
        due(in(LETTER + ";opens:" + "(1)+".repeat(20) + "(((((1)))))*((((((2))))));").takes(0, 0), 22);
    }

    static void promise3_parenthesesEnd() {
        fault(2, "noon 9;opens:(1|;");
        fault(2, "noon 9;opens:((1)|;");
        fault(2, "noon 9;opens:1|);");
        fault(2, "noon 9;opens:(|);");
        fault(2, "noon 9;opens:(1|");
    }

    static void promise3_aSumHasTermsAndSigns() {
        fault(2, "noon 9;opens|;");
        fault(2, "noon 9;opens |1;");
        fault(2, "noon 9;opens:|;");
        fault(2, "noon 9;opens:|-1;");
        fault(2, "noon 9;opens:|*1;");
        fault(2, "noon 9;opens:1+|;");
        fault(2, "noon 9;opens:1+|-1;");
        fault(2, "noon 9;opens:1-|;");
        fault(2, "noon 9;opens:1*|;");
        fault(2, "noon 9;opens:1 |1;");
        fault(2, "noon 9;opens:1 |pages;");
        fault(2, "noon 9;opens:1|(2);");
        fault(2, "noon 9;opens:(1)|2;");
        fault(2, "noon 9;opens:1|:2;");
    }

    static void promise3_otherWordsInASum() {
        fault(2, "noon 9;opens:|worth;");
        fault(2, "noon 9;opens:|court;");
        fault(2, "noon 9;opens:|page;");
        fault(2, "noon 9;copies:|noon;");
    }

    static void promise3_skillInAnotherLaw() {
        due(in("noon 9;hand 0 skill 7;court 1;letter 0 tongue 0;copies:skill;").copies(0, 0), 7);
        fault(2, "noon 9;opens:|skill;");
        fault(2, "noon 9;mends:1+|skill;");
        fault(2, "noon 9;shows:(|skill);");
    }

    static void promise3_numbersInASumHaveNoBounds() {
        due(in(LETTER + ";opens:000;").takes(0, 0), 0);
        due(in(LETTER + ";opens:999;").takes(0, 0), 999);
    }

    static void promise3_blanksAre10And32() {
        lines(2, "\n noon\n \n9 ; prior\n5\n;\n ");
        for (int sign : new int[] {0, 9, 11, 13, 31, 127, 128, 160, 255}) {
            fault(1, "noon 9;|" + (char) sign + "prior 5;");
        }
    }

    static void promise3_tokensNeedNoBlanks() {
        BlackCabinet x = in("noon9;hand0 1 1skill2;court007;letter0tongue3says no;opens:pages*2+(3);");
        due(x.count(0), 9);
        dueAll(what -> x.hand(0, what), 3, 2, 1, 0);
        due(x.court(0), 7);
        due(x.letter(0, 6), 2);
        due(x.takes(0, 0), 5);
    }

    static void promise3_tokensGoOnAsLongAsTheyCan() {
        fault(2, "|noonnoon 9;");
        fault(2, "noon 9;|courts 1;");
        fault(2, "noon 9;|han d 0;");
        fault(2, "noon 1 |2;");
        fault(3, "noon |333;");
        fault(2, LETTER + " |saysyes;");
    }

    static void promise3_aNumberHas1To3Digits() {
        due(in("noon 009;").count(0), 9);
        fault(1, "noon |0009;");
        fault(1, "noon |1000;");
        fault(1, "noon |12345678901234567890;");
        fault(1, "noon|1000;");
    }

    // ---- 4: fault

    static void promise4_noneWasReadYet() {
        BlackCabinet x = new BlackCabinet();
        dueAll(x::fault, 0, -1);
    }

    static void promise4_others() {
        BlackCabinet x = new BlackCabinet();
        read(x, "noon 0;");
        dueAll(x::fault, 3, 5, -1);
        due(x.fault(-1), -1);
        due(x.fault(Integer.MAX_VALUE), -1);
        due(x.fault(Integer.MIN_VALUE), -1);
    }

    static void promise4_noFault() {
        BlackCabinet x = new BlackCabinet();
        read(x, "spy");
        read(x, "noon 9;");
        dueAll(x::fault, 0, -1);
    }

    static void promise4_theLatestThatWasRead() {
        BlackCabinet x = new BlackCabinet();
        read(x, "noon 9;spy;");
        due(x.room(-1), -3);
        due(x.room(1), -3);
        dueAll(x::fault, 2, 7);
        read(x, "noon 9 A");
        dueAll(x::fault, 1, 7);
    }

    static void promise4_anImageHasNoFaults() {
        BlackCabinet x = in("noon 9;");
        x.image(0);
        read(x, "noon 9;spy;");
        x.restore(0);
        dueAll(x::fault, 2, 7);
    }

    static void promise4_theFirstAlongTheText() {
        fault(2, "noon 9;|spy;Noon 1000");
        fault(3, "noon 9;hand |4 A;");
        fault(4, THREE_HANDS + "|hand 9;A");
        fault(1, "noon 9;|A;spy");
        fault(2, "noon 9;opens|;spy;");
        fault(2, "noon 9;hand|;spy;hand 9;");
        fault(2, "noon |spy 1000A");
    }

    static void promise4_noTokenBeginsSo() {
        fault(1, "|Noon 9;");
        fault(1, "noon 9|,");
        fault(1, "noon 9;name |A;");
        fault(1, "noon 9;name a|A;");
        fault(1, "noon 9;opens:|/;");
        fault(1, "noon 9;opens:1|.5;");
        fault(1, "noon 9;hand |_;");
        fault(1, "noon 9;hand 0 |'");
        fault(1, "noon 9;hand 0|\u00e9");
    }

    static void promise4_signsNextToTheKnownOnes() {
        for (char sign : new char[] {'!', '\'', ',', '.', '/', '<', '=', '@', 'A', 'Z', '[', '`', '{', '~'}) {
            fault(1, "noon 9;|" + sign);
        }
    }

    static void promise4_kind1GoesAheadOfOthersOfOneToken() {
        fault(1, "|1000;");
        fault(1, "noon |1000;");
        fault(1, "noon 9;hand 0 |1000;");
        fault(1, "noon 9;prior 1 |1000;");
        fault(1, "noon 9;|0000;");
    }

    static void promise4_kind2GoesAheadOf3() {
        fault(2, "noon 9;|999;");
        fault(2, "noon 9;court 1 |999;");
        fault(2, "noon 9;hand 0 skill 1 |99;");
    }

    static void promise4_kind2GoesAheadOf4() {
        fault(2, "noon 9;opens:((((((1|(2)))))));");
        fault(2, THREE_HANDS + "court |hand 1;");
        fault(2, FOUR_COURTS + "hand |court;");
        fault(2, SIX_LETTERS + "prior |letter;");
    }

    static void promise4_theEndIsTheTextsLength() {
        fault(2, "|");
        fault(2, "  |");
        fault(2, "noon|");
        fault(2, "noon  |");
        fault(2, "noon 9|");
        fault(2, "noon 9\n|");
        fault(2, "noon 9;hand|");
        fault(2, "noon 9;hand 0|");
        fault(2, "noon 9;hand 0 skill|");
        fault(2, "noon 9;court|");
        fault(2, "noon 9;court 1;letter|");
        fault(2, "noon 9;court 1;letter 0|");
        fault(2, LETTER + "|");
        fault(2, LETTER + " says|");
        fault(2, "noon 9;name|");
        fault(2, "noon 9;name a|");
        fault(2, "noon 9;opens|");
        fault(2, "noon 9;opens:|");
        fault(2, "noon 9;opens:1|");
        fault(2, "noon 9;opens:1+ |");
        fault(2, " ".repeat(900) + "|");
    }

    static void promise4_wordsOfTheLanguageAlone() {
        String[][] texts = {{"|noon 9;", "noon"}, {"noon 9;|hand 0;", "hand"}, {"noon 9;hand 0 |skill 1;", "skill"},
            {"noon 9;|court 1;", "court"}, {"noon 9;court 1;|letter 0 tongue 0;", "letter"},
            {"noon 9;court 1;letter 0 |tongue 0;", "tongue"}, {LETTER + " |pages 1;", "pages"}, {LETTER + " |worth 1;", "worth"},
            {LETTER + " |seal 1;", "seal"}, {LETTER + " |sign 1;", "sign"}, {LETTER + " |says no;", "says"},
            {LETTER + " says |yes;", "yes"}, {LETTER + " says |no;", "no"}, {"noon 9;|opens:1;", "opens"},
            {"noon 9;|copies:1;", "copies"}, {"noon 9;|mends:1;", "mends"}, {"noon 9;|shows:1;", "shows"},
            {"noon 9;|prior 1;", "prior"}, {"noon 9;|name a;", "name"}, {"noon 9;opens:|pages;", "pages"},
            {"noon 9;copies:|skill;", "skill"}};
        for (String[] t : texts) {
            String word = t[1];
            lines(t[0].replace("|", "").length() - t[0].replaceAll("[;|]", "").length(), t[0].replace("|", ""));
            fault(2, t[0].replace("|" + word, "|z" + word.substring(1)));
            fault(2, t[0].replace("|" + word, "|" + word.substring(0, word.length() - 1) + "z"));
            fault(2, t[0].replace("|" + word, "|" + word + "z"));
            fault(2, t[0].replace("|" + word, "|" + word.substring(0, word.length() - 1)));
        }
    }

    static void promise4_aLineHasWords() {
        fault(2, "noon 9;|;");
        fault(2, "noon 9;|skill 1;");
        fault(2, "noon 9;|pages 1;");
        fault(2, "noon 9;|:");
    }

    // ---- 5: letter

    static void promise5_whatIsAskedFor() {
        BlackCabinet x = in(FIRST);
        dueAll(what -> x.letter(0, what), 0, 1, 2, 5, 1, 0, 1, 0, 0, -2);
        dueAll(what -> x.letter(1, what), 1, 2, 1, 3, 0, 0, 2, 0, 0, -2);
        dueAll(what -> x.letter(2, what), 0, 0, 4, 9, 2, 0, 0, 0, 0, -2);
        due(x.letter(0, -1), -2);
        due(x.letter(0, Integer.MAX_VALUE), -2);
        due(x.letter(0, Integer.MIN_VALUE), -2);
    }

    static void promise5_noSuchLetter() {
        BlackCabinet x = in(FIRST);
        due(x.letter(3, 0), -2);
        due(x.letter(-1, 0), -2);
        due(x.letter(Integer.MAX_VALUE, 7), -2);
        due(x.letter(Integer.MIN_VALUE, 8), -2);
        BlackCabinet y = in(SIX_LETTERS);
        due(y.letter(5, 2), 1);
        due(y.letter(6, 2), -2);
    }

    static void promise5_readAndFoundOut() {
        BlackCabinet x = in("noon 9;hand 0;court 1;letter 0 tongue 0 sign 1;letter 0 tongue 0;letter 0 tongue 0;"
            + "opens:1;copies:1;mends:1;shows:sign*100;");
        fill(x, 0, 1, 0);
        due(x.morning(0), 1);
        dueAll(k -> x.letter(k, 7), 1, 1, 0);
        dueAll(k -> x.letter(k, 8), 1, 0, 0);
    }

    // ---- 6: hand

    static void promise6_whatIsAskedFor() {
        BlackCabinet x = in(FIRST);
        dueAll(what -> x.hand(0, what), 3, 0, 1, 5, -2);
        dueAll(what -> x.hand(1, what), 6, 4, 1, 3, -2);
        due(x.hand(0, -1), -2);
        due(x.hand(0, Integer.MIN_VALUE), -2);
    }

    static void promise6_noSuchHand() {
        BlackCabinet x = in(FIRST);
        due(x.hand(2, 0), -2);
        due(x.hand(-1, 0), -2);
        due(x.hand(Integer.MAX_VALUE, 2), -2);
        BlackCabinet y = in(THREE_HANDS);
        dueAll(what -> y.hand(2, what), 4, 0, 1, 0);
        due(y.hand(3, 0), -2);
    }

    static void promise6_asleep() {
        BlackCabinet x = in(FIRST);
        x.sleeps(1);
        due(x.hand(0, 2), 1);
        dueAll(what -> x.hand(1, what), 6, 4, 0, 3);
    }

    static void promise6_allSixLettersReadOrNot() {
        BlackCabinet x = in(alike(300, 1, 6));
        due(x.hand(0, 3), 63);
        x.byRule();
        due(x.hand(0, 3), 63);
    }

    // ---- 7: court

    static void promise7_noSuchCourt() {
        BlackCabinet x = in(FOUR_COURTS);
        dueAll(x::court, 1, 2, 3, 4, -2);
        due(x.court(-1), -2);
        due(x.court(Integer.MAX_VALUE), -2);
        due(in(FIRST).court(2), -2);
    }

    // ---- 8: takes

    static void promise8_noSuchLetterOrWhat() {
        BlackCabinet x = in(FIRST);
        dueAll(what -> x.takes(0, what), 2, 4, 10, -2);
        due(x.takes(0, -1), -2);
        due(x.takes(3, 0), -2);
        due(x.takes(-1, 0), -2);
        due(x.takes(Integer.MIN_VALUE, Integer.MIN_VALUE), -2);
    }

    static void promise8_withoutLaws() {
        BlackCabinet x = in(LETTER + " seal 9 sign 9 pages 99;");
        dueAll(what -> x.takes(0, what), 2, 12, 10);
        BlackCabinet y = in(LETTER + ";");
        dueAll(what -> y.takes(0, what), 2, 3, 10);
    }

    private static BlackCabinet laws(String sum) {
        return in(LETTER + " pages 4 seal 5 sign 6;opens:" + sum + ";copies:" + sum + ";mends:" + sum + ";shows:" + sum + ";");
    }

    private static void law(String sum, int minutes) {
        BlackCabinet x = laws(sum);
        due(sum, x.takes(0, 0), minutes);
        due(sum, x.takes(0, 1), minutes);
        due(sum, x.takes(0, 2), Math.min(100, minutes));
        due(sum, x.copies(0, 0), minutes);
    }

    static void promise8_minutesAre0AtLeast() {
        law("0", 0);
        law("0-1", 0);
        law("0-999*999", 0);
    }

    static void promise8_minutesAre999AtMost() {
        law("999", 999);
        law("998+1", 999);
        law("999+1", 999);
        law("999*999*999", 999);
    }

    static void promise8_showsIs0To100() {
        due(laws("0-1").takes(0, 2), 0);
        due(laws("0").takes(0, 2), 0);
        due(laws("99").takes(0, 2), 99);
        due(laws("100").takes(0, 2), 100);
        due(laws("101").takes(0, 2), 100);
    }

    static void promise8_eachSumIsKeptTo1000000() {
        law("999*999+999*999-999*999-999-999", 1);
        law("(999+1)*(999+1)-999*999-999-999", 1);
        law("(999+1)*(999+1)+1-999*999-999-999", 1);
    }

    static void promise8_eachDifferenceIsKeptToMinus1000000() {
        law("0-999*999-999*999+999*999+999+999+5", 4);
        law("0-(999+1)*(999+1)+999*999+999+999+5", 4);
        law("0-(999+1)*(999+1)-1+999*999+999+999+5", 4);
    }

    static void promise8_eachProductIsKept() {
        law("999*999*2-999*999-999-999", 1);
        law("(0-999)*999*2+999*999+999+999+5", 4);
        law("999*999*999*999*999*999*999*999-999*999-999-999", 1);
        law("(0-999*999)*(0-999*999)-999*999-999-999", 1);
        law("(0-999*999)*(999*999)+999*999+999+999+5", 4);
    }

    static void promise8_timesGoesAheadAndTheRestFromLeftToRight() {
        law("2+3*4", 14);
        law("(2+3)*4", 20);
        law("10-3-2", 5);
        law("10-(3-2)", 9);
        law("2*3-4*1", 2);
    }

    static void promise8_factsOfTheLetter() {
        BlackCabinet x = in("noon 9;court 1;letter 0 tongue 3 pages 4 seal 5 sign 6;letter 0 tongue 0;"
            + "opens:pages*10+seal-sign*tongue;mends:sign;shows:tongue;");
        dueAll(what -> x.takes(0, what), 27, 6, 3);
        dueAll(what -> x.takes(1, what), 10, 0, 0);
    }

    static void promise8_theDeepestSums() {
        law("1+1*(1+1*(1+1*(1+1*(1+1*(1+1*(1+1*2))))))", 9);
        law("9-(8-(7-(6-(5-(4-(3-2))))))", 4);
    }

    // ---- 9: copies

    static void promise9_noSuchLetterOrHand() {
        BlackCabinet x = in(FIRST);
        due(x.copies(2, 1), 16);
        due(x.copies(3, 0), -2);
        due(x.copies(0, 2), -2);
        due(x.copies(-1, 0), -2);
        due(x.copies(0, -1), -2);
        due(x.copies(Integer.MIN_VALUE, Integer.MAX_VALUE), -2);
    }

    static void promise9_whetherItReadsItOrNot() {
        BlackCabinet x = in(FIRST);
        due(x.hand(1, 3) & 4, 0);
        due(x.copies(2, 1), 16);
        x.sleeps(1);
        due(x.copies(2, 1), 16);
    }

    static void promise9_oneMinuteAtLeastWithoutALaw() {
        String room = "noon 9;hand 0 skill 3;hand 0 skill 5;hand 0 skill 9;court 1;letter 0 tongue 0;letter 0 tongue 0 pages 99;";
        dueAll(h -> in(room).copies(0, h), 2, 1, 1);
        dueAll(h -> in(room).copies(1, h), 492, 490, 486);
    }

    static void promise9_noMinuteWithALaw() {
        due(in(LETTER + ";copies:0;").copies(0, 0), 0);
        due(in(LETTER + ";copies:0-5;").copies(0, 0), 0);
    }

    static void promise9_theSkillIsTheHands() {
        BlackCabinet x = in("noon 9;hand 0 skill 9;hand 0;court 1;letter 0 tongue 0 pages 2;copies:(pages+skill)*2;");
        dueAll(h -> x.copies(0, h), 22, 4, -2);
    }

    // ---- 10: name

    static void promise10_notSoMany() {
        BlackCabinet x = in(FIRST);
        dueAll(x::name, 17, 4, 23, -1);
        due(x.name(Integer.MAX_VALUE), -1);
        BlackCabinet y = in("noon 9;name abcdefyz;");
        dueAll(y::name, 0, 1, 2, 3, 4, 5, 24, 25, -1);
    }

    static void promise10_iBelow0() {
        due(in(FIRST).name(-1), -3);
        due(in(FIRST).name(Integer.MIN_VALUE), -3);
    }

    static void promise10_withoutAName() {
        due(in("noon 9;").name(0), -1);
        due(in("noon 9;").name(-1), -3);
        due(in("noon 9;").count(12), 0);
    }
}
