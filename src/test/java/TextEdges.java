/** The boundary cases of THE TAPE, the TOKENS, the FAULTS and of a text that is taken (promises 1 to 5). */
public final class TextEdges {
    private static final int BAD = UnaskedGuests.BAD, STATE = UnaskedGuests.STATE;
    private static final int FULL = UnaskedGuests.FULL, NONE = UnaskedGuests.NONE;
    private static final String[] KINDS = {"friend", "bore", "aunt", "enemy"};

    public static void main(String[] args) throws Exception {
        Checks.runAll(TextEdges.class);
    }

    private static UnaskedGuests withBytes(int n) {
        UnaskedGuests x = new UnaskedGuests();
        for (int i = 0; i < n; i++) {
            x.feed(' ');
        }
        return x;
    }

    private static String blanks(int n) {
        return " ".repeat(n);
    }

    // ---- a new object

    static void aNewObjectHasNoHousesAndNobody() {
        UnaskedGuests x = new UnaskedGuests();
        for (int what = 0; what < 6; what++) {
            Checks.due("rule " + what, 0, x.rule(what));
        }
        Checks.due(BAD, x.house(0, 0));
        Checks.due(BAD, x.comer(0, 0));
        Checks.due(BAD, x.likes(0, 0));
        Checks.due(0, x.count(4));
        Checks.due(0, x.count(5));
    }

    static void aNewObjectHasAnEmptyTapeAndNothingSeenOrKept() {
        UnaskedGuests x = new UnaskedGuests();
        Checks.due(0, x.count(0));
        Checks.due(0, x.count(1));
        Checks.due(0, x.count(2));
        Checks.due(0, x.fault());
        Checks.due(0, x.torn());
        Checks.due(STATE, x.back(0));
        Checks.due(STATE, x.back(1));
    }

    static void sheetsOfANewObjectAreNothing() {
        UnaskedGuests x = new UnaskedGuests();
        Checks.due(NONE, x.count(3));
        for (int k = 0; k < 4; k++) {
            Checks.due(-11, x.lay(k, 0, 0));
            Checks.due(0, x.read(k, 0, 0, 1));
            Checks.due(1, x.torn());
        }
    }

    /** An object is used for at most 512 calls, and the last of them is answered as the first. */
    static void the512thCallIsAnsweredAsTheFirst() {
        UnaskedGuests x = new UnaskedGuests();
        Checks.tell(x, "house;bore 0 3 4;");
        for (int call = 19; call <= 512; call++) {
            Checks.due("call " + call, call % 2 == 0 ? 3 : 0, call % 2 == 0 ? x.begins(0, 60) : x.runs(0, 0));
        }
    }

    static void objectsShareNothing() {
        UnaskedGuests x = Checks.told(Checks.COUNTY);
        x.sheet(0, 0, 3);
        x.keep(0);
        x.feed('a');
        aNewObjectHasNoHousesAndNobody();
        aNewObjectHasAnEmptyTapeAndNothingSeenOrKept();
        sheetsOfANewObjectAreNothing();
        Checks.due(3, x.rule(0));
    }

    // ---- feed, end

    static void aByteIs0To127() {
        Checks.bounds("feed", UnaskedGuests::new, 0, 127, UnaskedGuests::feed);
    }

    static void aByteThatIsBadDoesNotCome() {
        UnaskedGuests x = withBytes(2);
        Checks.due(BAD, x.feed(-1));
        Checks.due(BAD, x.feed(128));
        Checks.due(2, x.count(2));
        Checks.due(3, x.feed(127));
    }

    static void feedTellsHowManyThereAre() {
        UnaskedGuests x = new UnaskedGuests();
        for (int i = 1; i <= 160; i++) {
            Checks.due(i, x.feed(i % 128));
        }
    }

    static void the160thByteComesAndTheNextIsFull() {
        UnaskedGuests x = withBytes(159);
        Checks.due(160, x.feed(' '));
        Checks.due(FULL, x.feed(' '));
        Checks.due(FULL, x.feed(0));
        Checks.due(FULL, x.feed(127));
        Checks.due(160, x.count(2));
    }

    static void aByteThatIsFullChangesNoByte() {
        UnaskedGuests x = new UnaskedGuests();
        Checks.feedAll(x, "house;" + blanks(148) + "house;");
        Checks.due(FULL, x.feed('#'));
        Checks.due(2, x.text());
    }

    static void badComesAheadOfFullOnAFullTape() {
        UnaskedGuests x = withBytes(160);
        Checks.due(BAD, x.feed(-1));
        Checks.due(BAD, x.feed(128));
    }

    static void aFullTapeHasRoomAgainBehindEndAndText() {
        UnaskedGuests x = withBytes(160);
        Checks.due(160, x.end(159));
        Checks.due(160, x.feed(' '));
        Checks.due(FULL, x.feed(' '));
        Checks.due(0, x.text());
        Checks.due(1, x.feed(' '));
    }

    static void endKeeps0ToAllOfTheBytes() {
        Checks.bounds("end of 0", UnaskedGuests::new, 0, 0, UnaskedGuests::end);
        Checks.bounds("end of 7", () -> withBytes(7), 0, 7, UnaskedGuests::end);
        Checks.bounds("end of 160", () -> withBytes(160), 0, 160, UnaskedGuests::end);
    }

    static void endTellsHowManyThereWere() {
        UnaskedGuests x = withBytes(9);
        Checks.due(9, x.end(9));
        Checks.due(9, x.end(4));
        Checks.due(4, x.count(2));
        Checks.due(4, x.end(0));
        Checks.due(0, x.end(0));
        Checks.due(0, x.count(2));
    }

    static void endKeepsTheFirstBytes() {
        UnaskedGuests x = new UnaskedGuests();
        Checks.feedAll(x, "house;bore");
        x.end(6);
        Checks.due(1, x.text());
    }

    /** What was fed behind the end, or ahead of an earlier text(), is no longer there to lengthen a token. */
    static void aTokenEndsWithTheTape() {
        UnaskedGuests x = new UnaskedGuests();
        Checks.feedAll(x, "house;");
        x.end(4);
        Checks.due(-10, x.text());
        Checks.due(2, x.fault());
        Checks.feedAll(x, "house 012");
        x.end(8);
        Checks.due(-18, x.text());
        Checks.due(2, x.fault());
        Checks.due(-15, Checks.tell(x, "house"));
        Checks.due(2, x.fault());
        Checks.due(2, Checks.tell(x, "house;house;"));
        Checks.due(0, x.text());
    }

    static void anEndThatIsBadKeepsAll() {
        UnaskedGuests x = new UnaskedGuests();
        Checks.feedAll(x, "house;");
        Checks.due(BAD, x.end(7));
        Checks.due(BAD, x.end(-1));
        Checks.due(6, x.count(2));
        Checks.due(1, x.text());
    }

    // ---- tokens

    static void aTextMayBeEmptyOrBlank() {
        Checks.reads("", 0, 0);
        Checks.reads(" ", 0, 0);
        Checks.reads(blanks(160), 0, 0);
    }

    static void aTextMayFillTheTape() {
        Checks.reads("house;" + blanks(154), 1, 0);
        Checks.reads(blanks(154) + "house;", 1, 0);
        Checks.reads("house" + blanks(154) + ";", 1, 0);
    }

    static void placesReach160() {
        Checks.reads(blanks(159) + "#", -169, 1);
        Checks.reads(blanks(159) + "a", -169, 2);
        Checks.reads("house" + blanks(155), -170, 2);
        Checks.reads("house 0;" + blanks(152), -170, 6);
        Checks.reads(blanks(152) + "house 6;", -168, 3);
    }

    static void placesAreFrom0() {
        Checks.reads("#", -10, 1);
        Checks.reads(";", -10, 2);
        Checks.reads(" #", -11, 1);
        Checks.reads("  ;", -12, 2);
    }

    static void namesAreOfAToZ() {
        for (int c = 0; c < 128; c++) {
            boolean letter = c >= 'a' && c <= 'z';
            boolean figure = c >= '0' && c <= '9';
            if (c != ' ') {
                Checks.reads((char) c + " ", -10, letter || figure || c == ';' ? 2 : 1);
            }
        }
    }

    static void onlyByte32IsABlank() {
        for (int c = 0; c < 128; c++) {
            boolean token = c >= 'a' && c <= 'z' || c >= '0' && c <= '9' || c == ';' || c == ' ';
            if (!token) {
                Checks.reads("house" + (char) c + ";", -15, 1);
            }
        }
        Checks.reads("house ;", 1, 0);
    }

    static void signsBesideTheFiguresAreNoTokens() {
        Checks.reads("house /;", -16, 1);
        Checks.reads("house :;", -16, 1);
        Checks.reads("house 0:", -17, 1);
        Checks.reads("house 0/", -17, 1);
        Checks.reads("house -1;", -16, 1);
        Checks.reads("house `;", -16, 1);
        Checks.reads("house {;", -16, 1);
        Checks.reads("house<", -15, 1);
    }

    static void aNameIsAsLongAsMayBe() {
        Checks.reads("houses;", -10, 2);
        Checks.reads("househouse;", -10, 2);
        Checks.reads("hous e;", -10, 2);
        Checks.reads("bored 9 0 0;", -10, 2);
        Checks.reads("a".repeat(160), -10, 2);
    }

    static void aNumberIsAsLongAsMayBe() {
        UnaskedGuests x = Checks.told("house 01;bore 9 0 0;bore 9 0 0;");
        Checks.due(2, x.house(0, 0));
        Checks.reads("friend 9 00;", -21, 2);
        Checks.reads("friend 900 0;", -17, 1);
    }

    static void tokensNeedNoBlankBetweenThem() {
        Checks.reads("house;friend9 0 0;bore9 6 9;", 3, 0);
        UnaskedGuests x = Checks.told("house0;bore0 0 7;");
        Checks.due(1, x.house(0, 0));
        Checks.reads("9bore", -10, 2);
    }

    static void blanksMayStandBetweenTokens() {
        Checks.reads("  house   0   1  ;   bore   9  0   0  ;bore 9 0 0;  ", 3, 0);
    }

    static void numbersHaveOneOrTwoFigures() {
        Checks.reads("bore 9 0 0;", 1, 0);
        Checks.reads("bore 09 00 00;", 1, 0);
        Checks.reads("bore 009 0 0;", -15, 1);
        Checks.reads("bore 9 000 0;", -17, 1);
        Checks.reads("bore 9 0 000;", -19, 1);
    }

    static void aNumberThatIsTooLongIsToldByItsFirstByte() {
        Checks.reads("house   123;", -18, 1);
        Checks.reads("house 0 123;", -18, 1);
        Checks.reads("123", -10, 1);
        Checks.reads("house " + "9".repeat(154), -16, 1);
    }

    static void aNumberThatIsTooLongIsNoTokenWhereverItStands() {
        Checks.reads("123 house;", -10, 1);
        Checks.reads("friend 9 0 0 000;", -23, 1);
    }

    // ---- fault 2: what can not stand there

    static void aLineBeginsWithANameOfALine() {
        for (String name : new String[] {"a", "z", "h", "hous", "housee", "friends", "frien", "bor", "borer",
            "aun", "aunts", "enem", "enemya", "guest", "iend", "ore"}) {
            Checks.reads(name + " 9 0 0;", -10, 2);
            Checks.reads("house;" + name + ";", -16, 2);
        }
        Checks.reads("0 9 0 0;", -10, 2);
        Checks.reads(";", -10, 2);
        Checks.reads("house;;", -16, 2);
    }

    static void aListHasNumbersAlone() {
        Checks.reads("house bore;", -16, 2);
        Checks.reads("house 0 house;", -18, 2);
    }

    static void aComerHasNoFewerThanThreeNumbers() {
        for (String kind : KINDS) {
            int n = kind.length();
            Checks.reads(kind + ";", -10 - n, 2);
            Checks.reads(kind + " 9;", -10 - n - 2, 2);
            Checks.reads(kind + " 9 0;", -10 - n - 4, 2);
            Checks.reads(kind + " 9 0 0;", 1, 0);
        }
    }

    static void aComerHasNoMoreThanThreeNumbers() {
        for (String kind : KINDS) {
            Checks.reads(kind + " 9 0 0 0;", -10 - kind.length() - 7, 2);
            Checks.reads(kind + " 9 0 0 bore", -10 - kind.length() - 7, 2);
        }
    }

    static void namesDoNotStandForNumbers() {
        Checks.reads("bore bore", -15, 2);
        Checks.reads("bore 9 x", -17, 2);
        Checks.reads("bore 9 0 x", -19, 2);
    }

    static void theEndIsToldByTheLength() {
        for (String text : new String[] {"house", "house 0", "house 0 ", "bore", "bore ", "bore 9", "bore 9 0",
            "bore 9 0 0", "bore 9 0 0   ", "house;house", "house;bore 9 0 0"}) {
            Checks.reads(text, -10 - text.length(), 2);
        }
    }

    // ---- fault 3: bounds

    private static String figures(int v, boolean two) {
        return (two && v < 10 ? "0" : "") + v;
    }

    static void aListIsOfComers0To5() {
        String comers = "bore 9 0 0;".repeat(6);
        for (int v = 0; v < 100; v++) {
            String text = comers + "house " + v + ";";
            Checks.reads(text, v <= 5 ? 7 : -82, v <= 5 ? 0 : 3);
            Checks.reads(comers + "house " + figures(v, true) + ";", v <= 5 ? 7 : -82, v <= 5 ? 0 : 3);
        }
        Checks.reads("house 0 1 2 3 4 5 6;", -28, 3);
    }

    static void aComerGoesTo0To3Or9() {
        for (int v = 0; v < 100; v++) {
            boolean fits = v <= 3 || v == 9;
            Checks.reads("house;house;house;house;bore " + v + " 0 0;", fits ? 5 : -39, fits ? 0 : 3);
            Checks.reads("house;house;house;house;aunt " + figures(v, true) + " 0 0;", fits ? 5 : -39, fits ? 0 : 3);
        }
    }

    static void aComerComesAt0To6() {
        for (int v = 0; v < 100; v++) {
            Checks.reads("bore 9 " + v + " 0;", v <= 6 ? 1 : -17, v <= 6 ? 0 : 3);
        }
    }

    static void aComerIsLiked0To9() {
        for (int v = 0; v < 100; v++) {
            Checks.reads("bore 9 0 " + v + ";", v <= 9 ? 1 : -19, v <= 9 ? 0 : 3);
        }
    }

    static void boundsAreToldAsEachNumberIsRead() {
        Checks.reads("bore 4 7 10;", -15, 3);
        Checks.reads("bore 3 7 10;", -17, 3);
        Checks.reads("bore 3 6 10;", -19, 3);
    }

    // ---- fault 4

    static void aComerTwiceOnAListIsToldByTheSecond() {
        Checks.reads("house 0 0;", -18, 4);
        Checks.reads("house 5 5;", -18, 4);
        Checks.reads("house 0 1 0;", -20, 4);
        Checks.reads("house 3 03;", -18, 4);
        Checks.reads("house 0 1 2 3 4 5 0;", -28, 4);
        Checks.reads("house 0 1 2 3 4 5 5;", -28, 4);
    }

    static void aComerMayBeOnSeveralLists() {
        Checks.reads("house 0;house 0;house 0;house 0;bore 9 0 0;", 5, 0);
    }

    static void allSixMayBeOnAList() {
        UnaskedGuests x = Checks.told("house 5 4 3 2 1 0;" + "bore 9 0 0;".repeat(6));
        Checks.due(63, x.house(0, 0));
        Checks.due(6, x.rule(5));
        Checks.reads("house 0 1 2 3 4 5", -27, 2);
        Checks.reads("house 0 1 2 3 4 5 x", -28, 2);
        Checks.reads("house 0 1 2 3 4 5 000", -28, 1);
    }

    // ---- fault 5

    static void fourHousesAreTakenAndTheFifthIsNot() {
        Checks.reads("house;house;house;house;", 4, 0);
        Checks.reads("house;house;house;house;house;", -34, 5);
        Checks.reads("house;house;house;house;   house;", -37, 5);
        Checks.reads("house;house;house;house;house", -34, 5);
    }

    static void sixComersAreTakenAndTheSeventhIsNot() {
        String six = "bore 9 0 0;aunt 9 0 0;bore 9 0 0;enemy 9 0 0;bore 9 0 0;friend 9 0 0;";
        Checks.reads(six, 6, 0);
        for (String kind : KINDS) {
            Checks.reads(six + kind + " 9 0 0;", -10 - six.length(), 5);
            Checks.reads(six + "  " + kind, -12 - six.length(), 5);
        }
    }

    static void housesAndComersAreCountedEachForThemselves() {
        String six = "bore 9 0 0;".repeat(6);
        Checks.reads("house;house;house;house;" + six, 10, 0);
        Checks.reads(six + "house;house;house;house;", 10, 0);
        Checks.reads(six + "house;house;house;house;house;", -100, 5);
        Checks.reads("house;house;house;house;" + six + "aunt", -100, 5);
    }

    // ---- fault 6

    static void aComerThatThereIsNotIsToldBehindAll() {
        Checks.reads("house 0;", -18, 6);
        Checks.reads("house 1;bore 9 0 0;", -29, 6);
        Checks.reads("house 0;bore 9 0 0;", 2, 0);
        Checks.reads("bore 9 0 0;house 1;  ", -31, 6);
        Checks.reads("house;house 5;" + "bore 9 0 0;".repeat(5), -79, 6);
        Checks.reads("house;house 5;" + "bore 9 0 0;".repeat(6), 8, 0);
    }

    static void aHouseThatThereIsNotIsToldBehindAll() {
        Checks.reads("bore 0 0 0;", -21, 6);
        Checks.reads("bore 1 0 0;house;", -27, 6);
        Checks.reads("bore 1 0 0;house;house;", 3, 0);
        Checks.reads("bore 3 0 0;house;house;house;", -39, 6);
        Checks.reads("bore 3 0 0;house;house;house;house;", 5, 0);
        Checks.reads("bore 9 0 0;", 1, 0);
    }

    // ---- the first met as it is read

    static void aTokenIsReadWhenTheOneBeforeHasBeenTaken() {
        Checks.reads("mouse#", -10, 2);
        Checks.reads("house 6#", -16, 3);
        Checks.reads("house 0 0#", -18, 4);
        Checks.reads("bore 4#", -15, 3);
        Checks.reads("bore 9 7#", -17, 3);
        Checks.reads("bore 9 0 10#", -19, 3);
        Checks.reads("house;house;house;house;house#", -34, 5);
        Checks.reads("bore 9 0 0;".repeat(6) + "bore#", -76, 5);
    }

    static void aNumberOutOfBoundsIsFault3AheadOfFault4() {
        Checks.reads("house 6 6;", -16, 3);
        Checks.reads("house 0 0 6;", -18, 4);
        Checks.reads("house 0 6 0;", -18, 3);
    }

    static void otherFaultsComeAheadOfFault6() {
        Checks.reads("house 5;#", -18, 1);
        Checks.reads("house 5;mouse;", -18, 2);
        Checks.reads("house 5;bore 9 7 0;", -25, 3);
        Checks.reads("bore 3 0 0;house 1 1;", -29, 4);
        Checks.reads("house 5;house;house;house;house;", -36, 5);
        Checks.reads("bore 3 0 0;house", -26, 2);
    }

    static void theFirstFaultIsTold() {
        Checks.reads("house # 6", -16, 1);
        Checks.reads("house 6 #", -16, 3);
        Checks.reads("house 0 x #", -18, 2);
    }

    // ---- text, fault

    static void theTapeIsEmptyBehindATextThatIsTakenOrNot() {
        UnaskedGuests x = Checks.told("house;");
        Checks.due(0, x.count(2));
        Checks.due(-10, Checks.tell(x, "#"));
        Checks.due(0, x.count(2));
        Checks.due(1, x.feed('h'));
    }

    static void textTellsHowManyLines() {
        Checks.reads("house;", 1, 0);
        Checks.reads("house;house;", 2, 0);
        Checks.reads("house;house;house;house;" + "bore 9 0 0;".repeat(6), 10, 0);
    }

    static void faultIs0AtFirstAndBehindATextThatIsTaken() {
        UnaskedGuests x = new UnaskedGuests();
        Checks.due(0, x.fault());
        Checks.due(-16, Checks.tell(x, "house 6;"));
        Checks.due(3, x.fault());
        Checks.due(0, x.text());
        Checks.due(0, x.fault());
    }

    static void faultIsOfTheLatestTextWhateverCameSince() {
        UnaskedGuests x = Checks.told(Checks.COUNTY);
        Checks.due(-18, Checks.tell(x, "house 0 0;"));
        x.feed('#');
        x.end(0);
        x.keep(0);
        x.evenings(1);
        x.back(0);
        Checks.due(BAD, x.feed(-1));
        Checks.due(4, x.fault());
        Checks.due(-10, Checks.tell(x, "x"));
        Checks.due(2, x.fault());
    }

    // ---- a text that is taken

    static void aTextThatIsTakenStandsInPlaceOfAll() {
        UnaskedGuests x = Checks.told(Checks.COUNTY);
        x.evenings(2);
        x.invite(1, 3, true);
        Checks.due(3, Checks.tell(x, "house;aunt 0 5 7;bore 9 6 0;"));
        Checks.due(1, x.rule(0));
        Checks.due(2, x.rule(1));
        Checks.due(0, x.rule(2));
        Checks.due(0, x.rule(5));
        Checks.due(0, x.house(0, 0));
        Checks.due(BAD, x.house(1, 0));
        Checks.due(BAD, x.comer(2, 0));
        Checks.due(2, x.comer(0, 0));
        Checks.due(0, x.comer(0, 1));
        Checks.due(5, x.comer(0, 2));
        Checks.due(7, x.likes(0, 0));
        Checks.due(NONE, x.comer(1, 1));
        Checks.due(0, x.likes(0, 1));
        Checks.due(7, x.count(5));
    }

    static void anEmptyTextThatIsTakenLeavesNoHouseAndNobody() {
        UnaskedGuests x = Checks.told(Checks.COUNTY);
        Checks.due(0, x.text());
        Checks.due(0, x.rule(0));
        Checks.due(0, x.rule(1));
        Checks.due(BAD, x.house(0, 0));
        Checks.due(BAD, x.comer(0, 0));
    }

    static void byATextThatIsTakenNothingIsSeen() {
        UnaskedGuests x = Checks.told(Checks.COUNTY);
        x.see(0, 0, 0);
        Checks.due(1, Checks.tell(x, "house;"));
        Checks.due(0, x.count(0));
        Checks.due(0, x.forget(0));
    }

    static void byATextThatIsTakenImagesAreGone() {
        for (int k = 0; k < 2; k++) {
            UnaskedGuests x = Checks.told(Checks.COUNTY);
            x.keep(k);
            Checks.due(1, Checks.tell(x, "house;"));
            Checks.due(0, x.count(1));
            Checks.due(STATE, x.back(k));
            Checks.due(0, x.keep(k));
        }
    }

    static void aTextThatIsTakenLeavesTheSheets() {
        UnaskedGuests x = Checks.told(Checks.COUNTY);
        Checks.layRow(x, 0, 0, 0, 9);
        Checks.due(1, x.read(0, 0, 0, 2));
        Checks.due(2, x.torn());
        Checks.due(2, Checks.tell(x, "house;bore 0 0 0;"));
        Checks.due(2, x.count(3));
        Checks.due(2, x.torn());
        Checks.due(1, x.read(0, 0, 0, 1));
        Checks.due(NONE, x.comer(0, 1));
    }

    static void eachHouseLikesAComerSoMuchWhereverItIsTold() {
        UnaskedGuests x = Checks.told("house;bore 9 0 7;house;house;aunt 9 0 0;house;");
        for (int h = 0; h < 4; h++) {
            Checks.due(7, x.likes(h, 0));
            Checks.due(0, x.likes(h, 1));
        }
    }
}
