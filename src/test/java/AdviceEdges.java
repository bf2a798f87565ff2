/** The boundary cases of what is asked, changed and advised (promises 6 to 12, 17 to 30). */
public final class AdviceEdges {
    private static final int BAD = UnaskedGuests.BAD, STATE = UnaskedGuests.STATE;
    private static final int FULL = UnaskedGuests.FULL, NONE = UnaskedGuests.NONE;

    public static void main(String[] args) throws Exception {
        Checks.runAll(AdviceEdges.class);
    }

    private static UnaskedGuests county() {
        return Checks.told(Checks.COUNTY);
    }

    private static UnaskedGuests fullCounty() {
        return Checks.told(Checks.FULL_COUNTY);
    }

    /** A HOUSE is 0 to 2 in COUNTY, 0 to 3 where there are as many as may be; there is none in a new object. */
    private static void housesOf(String call, Checks.Call asked) {
        Checks.bounds(call + " of a house", AdviceEdges::county, 0, 2, asked);
        Checks.bounds(call + " of a house of four", AdviceEdges::fullCounty, 0, 3, asked);
        Checks.due(call + " of no house", BAD, asked.of(new UnaskedGuests(), 0));
        Checks.due(call + " of no house", BAD, asked.of(Checks.told("bore 9 0 0;"), 0));
    }

    /** A COMER is 0 to 3 in COUNTY, 0 to 5 where there are as many as may be; there is none in a new object. */
    private static void comersOf(String call, Checks.Call asked) {
        Checks.bounds(call + " of a comer", AdviceEdges::county, 0, 3, asked);
        Checks.bounds(call + " of a comer of six", AdviceEdges::fullCounty, 0, 5, asked);
        Checks.due(call + " of nobody", BAD, asked.of(new UnaskedGuests(), 0));
        Checks.due(call + " of nobody", BAD, asked.of(Checks.told("house;"), 0));
    }

    private static void whatOf(String call, int high, Checks.Call asked) {
        Checks.bounds(call + " by what", AdviceEdges::county, 0, high, asked);
        Checks.bounds(call + " by what", AdviceEdges::fullCounty, 0, high, asked);
    }

    // ---- rule, house, comer, likes

    static void ruleIsAskedBy0To5() {
        whatOf("rule", 5, UnaskedGuests::rule);
        Checks.bounds("rule", UnaskedGuests::new, 0, 5, UnaskedGuests::rule);
    }

    static void rulesOfAFullCounty() {
        UnaskedGuests x = fullCounty();
        Checks.due(4, x.rule(0));
        Checks.due(6, x.rule(1));
        Checks.due(0, x.rule(5));
        for (int h = 0; h < 4; h++) {
            for (int c = 0; c < 6; c++) {
                x.invite(h, c, true);
            }
        }
        Checks.due(24, x.rule(5));
    }

    static void houseIsAskedBy0To4() {
        housesOf("house", (x, h) -> x.house(h, 0));
        housesOf("house", (x, h) -> x.house(h, 2));
        whatOf("house", 4, (x, what) -> x.house(0, what));
        whatOf("house", 4, (x, what) -> x.house(2, what));
    }

    static void badComesAheadOfNoneAtAHouseThatFasts() {
        UnaskedGuests x = Checks.told("house;");
        Checks.due(NONE, x.house(0, 2));
        Checks.due(NONE, x.house(0, 3));
        Checks.due(BAD, x.house(0, 5));
        Checks.due(BAD, x.house(1, 2));
    }

    static void housesMayHaveAllOrNobody() {
        UnaskedGuests x = Checks.told("house;house 0 1 2 3 4 5;" + "bore 1 0 0;".repeat(6));
        int[][] want = {{0, 0, NONE, NONE, 63}, {63, 63, NONE, NONE, 0}};
        for (int h = 0; h < 2; h++) {
            for (int what = 0; what < 5; what++) {
                Checks.due(want[h][what], x.house(h, what));
            }
        }
    }

    static void comerIsAskedBy0To4() {
        comersOf("comer", (x, c) -> x.comer(c, 0));
        comersOf("comer", (x, c) -> x.comer(c, 1));
        whatOf("comer", 4, (x, what) -> x.comer(0, what));
    }

    static void comersMayBeOnAllListsOrNoneAndLiked0To36() {
        UnaskedGuests x = Checks.told("house 0;house 0;house 0;house 0;enemy 3 6 9;friend 9 0 0;");
        int[][] want = {{3, 3, 6, 4, 36}, {0, NONE, 0, 0, 0}};
        for (int c = 0; c < 2; c++) {
            for (int what = 0; what < 5; what++) {
                Checks.due(want[c][what], x.comer(c, what));
            }
        }
        UnaskedGuests homeless = Checks.told("bore 9 3 7;");
        Checks.due(0, homeless.comer(0, 3));
        Checks.due(0, homeless.comer(0, 4));
    }

    static void badComesAheadOfNoneOfOneWhoGoesToNone() {
        UnaskedGuests x = Checks.told("bore 9 0 0;");
        Checks.due(NONE, x.comer(0, 1));
        Checks.due(BAD, x.comer(0, 5));
        Checks.due(BAD, x.comer(1, 1));
    }

    static void likesOfAHouseAndAComer() {
        housesOf("likes", (x, h) -> x.likes(h, 0));
        comersOf("likes", (x, c) -> x.likes(0, c));
    }

    // ---- alter, fancy, invite

    static void alterOfAComerByWhat0To2() {
        comersOf("alter", (x, c) -> x.alter(c, 0, 0));
        comersOf("alter", (x, c) -> x.alter(c, 1, 9));
        comersOf("alter", (x, c) -> x.alter(c, 2, 6));
        whatOf("alter", 2, (x, what) -> x.alter(0, what, 0));
    }

    static void alterAKindTo0To3() {
        Checks.bounds("alter a kind", AdviceEdges::county, 0, 3, (x, v) -> x.alter(0, 0, v));
        UnaskedGuests x = county();
        for (int v = 0; v < 4; v++) {
            x.alter(1, 0, v);
            Checks.due(v, x.comer(1, 0));
            Checks.due(BAD, x.alter(1, 0, 4));
            Checks.due(BAD, x.alter(1, 0, -1));
            Checks.due(v, x.alter(1, 0, v));
        }
    }

    static void alterWhereHeGoesToAHouseThatThereIsOr9() {
        UnaskedGuests x = county();
        for (int v = -2; v < 12; v++) {
            boolean fits = v >= 0 && v <= 2 || v == 9;
            int was = x.comer(0, 1);
            Checks.due("to " + v, fits ? was : BAD, x.alter(0, 1, v));
            Checks.due("to " + v, fits ? v == 9 ? NONE : v : was, x.comer(0, 1));
        }
        UnaskedGuests four = fullCounty();
        Checks.due(0, four.alter(0, 1, 3));
        Checks.due(BAD, four.alter(0, 1, 4));
        UnaskedGuests homeless = Checks.told("bore 9 0 0;");
        Checks.due(BAD, homeless.alter(0, 1, 0));
        Checks.due(NONE, homeless.alter(0, 1, 9));
        Checks.due(BAD, homeless.alter(0, 1, Integer.MAX_VALUE));
        Checks.due(BAD, homeless.alter(0, 1, Integer.MIN_VALUE));
    }

    static void whereHeWentToNoneIsToldAsNone() {
        UnaskedGuests x = county();
        Checks.due(0, x.alter(0, 1, 9));
        Checks.due(NONE, x.alter(0, 1, 9));
        Checks.due(NONE, x.alter(0, 1, 1));
        Checks.due(1, x.alter(0, 1, 0));
    }

    static void alterWhenHeComesTo0To6() {
        Checks.bounds("alter when", AdviceEdges::county, 0, 6, (x, v) -> x.alter(0, 2, v));
        UnaskedGuests x = county();
        Checks.due(2, x.alter(2, 2, 6));
        Checks.due(BAD, x.alter(2, 2, 7));
        Checks.due(BAD, x.alter(2, 2, 9));
        Checks.due(6, x.alter(2, 2, 0));
        Checks.due(0, x.comer(2, 2));
    }

    static void fancyTo0To9() {
        housesOf("fancy", (x, h) -> x.fancy(h, 0, 5));
        comersOf("fancy", (x, c) -> x.fancy(0, c, 5));
        Checks.bounds("fancy", AdviceEdges::county, 0, 9, (x, v) -> x.fancy(0, 0, v));
    }

    static void fancyChangesOneLikingAlone() {
        UnaskedGuests x = fullCounty();
        Checks.due(9, x.fancy(3, 5, 0));
        Checks.due(0, x.likes(3, 5));
        Checks.due(207, x.count(5));
        Checks.due(0, x.fancy(3, 5, 9));
        Checks.due(9, x.fancy(0, 0, 1));
        Checks.due(1, x.likes(0, 0));
        Checks.due(208, x.count(5));
    }

    static void inviteOfAHouseAndAComer() {
        for (boolean is : new boolean[] {true, false}) {
            housesOf("invite", (x, h) -> x.invite(h, 0, is));
            comersOf("invite", (x, c) -> x.invite(0, c, is));
        }
    }

    static void inviteTellsWhetherHeWasAndTwiceIsAsOnce() {
        UnaskedGuests x = fullCounty();
        Checks.due(0, x.invite(3, 5, false));
        Checks.due(0, x.invite(3, 5, true));
        Checks.due(1, x.invite(3, 5, true));
        Checks.due(32, x.house(3, 0));
        Checks.due(1, x.rule(5));
        Checks.due(1, x.comer(5, 3));
        Checks.due(1, x.invite(3, 5, false));
        Checks.due(0, x.invite(3, 5, false));
        Checks.due(0, x.rule(5));
    }

    // ---- send, swap, strike

    static void sendIsAskedBy0And1() {
        comersOf("send", (x, c) -> x.send(c, 0));
        comersOf("send", (x, c) -> x.send(c, 1));
        whatOf("send", 1, (x, what) -> x.send(0, what));
    }

    static void ofSeveralHousesHeIsSentToTheFirst() {
        UnaskedGuests x = Checks.told("house;house;house;house;bore 3 0 0;");
        Checks.due(0, x.send(0, 0));
        Checks.due(1, x.send(0, 1));
        x.fancy(0, 0, 5);
        Checks.due(1, x.send(0, 0));
        x.fancy(1, 0, 5);
        x.fancy(2, 0, 5);
        Checks.due(3, x.send(0, 0));
        x.fancy(3, 0, 5);
        Checks.due(0, x.send(0, 0));
        Checks.due(0, x.send(0, 1));
    }

    static void toNoneIsTheLast() {
        Checks.due(0, Checks.told("house;bore 9 0 9;").send(0, 0));
        UnaskedGuests homeless = Checks.told("bore 9 0 0;");
        Checks.due(9, homeless.send(0, 0));
        Checks.due(0, homeless.send(0, 1));
        UnaskedGuests third = Checks.told("house 2;enemy 0 0 9;enemy 0 0 9;friend 0 0 9;");
        Checks.due(9, third.send(2, 0));
        Checks.due(1, third.send(2, 1));
    }

    static void swapIsAskedBy0And1() {
        whatOf("swap", 1, UnaskedGuests::swap);
        Checks.bounds("swap", UnaskedGuests::new, 0, 1, UnaskedGuests::swap);
    }

    static void badComesAheadOfNoneInWhatIsBest() {
        UnaskedGuests x = Checks.told("house 0;bore 0 0 9;");
        Checks.due(NONE, x.swap(0));
        Checks.due(BAD, x.swap(2));
        Checks.due(NONE, x.strike(0));
        Checks.due(BAD, x.strike(2));
        Checks.due(NONE, x.late(0));
        Checks.due(BAD, x.late(1));
        Checks.due(NONE, x.most(0, 0));
        Checks.due(BAD, x.most(1, 0));
        Checks.due(NONE, x.ask(0, 0));
        Checks.due(BAD, x.ask(0, 2));
    }

    static void nobodySwapsWithLessThanTwo() {
        Checks.due(NONE, new UnaskedGuests().swap(0));
        Checks.due(NONE, Checks.told("house;").swap(1));
        Checks.due(NONE, Checks.told("house;bore 0 0 5;").swap(0));
    }

    static void aSwapIsToldOnlyIfMoreDinnersBegin() {
        // one dinner as it is; by any swap one again
        UnaskedGuests x = Checks.told("house;house;bore 0 0 0;bore 1 0 9;");
        Checks.due(1, x.runs(1, 0));
        Checks.due(NONE, x.swap(0));
        Checks.due(NONE, x.swap(1));
        x.fancy(0, 1, 4);
        Checks.due(1, x.swap(0));
        Checks.due(2, x.swap(1));
        // by a swap fewer would begin
        UnaskedGuests fewer = Checks.told("house 1;house 0;bore 0 0 0;bore 1 0 0;");
        Checks.due(2, fewer.runs(1, 0));
        Checks.due(NONE, fewer.swap(0));
    }

    static void ofSeveralSwapsTheLeastIsTold() {
        UnaskedGuests x = fullCounty();
        x.fancy(3, 4, 0);
        Checks.due(45, x.swap(0));
        Checks.due(1, x.swap(1));
        x.fancy(0, 5, 0);
        Checks.due(5, x.swap(0));
        x.fancy(1, 0, 0);
        Checks.due(2, x.swap(0));
        Checks.due(1, x.swap(1));
        x.fancy(0, 3, 0);
        Checks.due(3, x.swap(0));
        Checks.due(2, x.swap(1));
    }

    static void twoWhoGoToOneHouseDoNotSwap() {
        Checks.due(NONE, Checks.told("house;bore 0 0 9;bore 0 6 9;").swap(0));
        Checks.due(NONE, Checks.told("house;bore 9 0 0;bore 9 6 0;").swap(0));
    }

    static void strikeIsAskedBy0And1() {
        whatOf("strike", 1, UnaskedGuests::strike);
        Checks.bounds("strike", UnaskedGuests::new, 0, 1, UnaskedGuests::strike);
    }

    static void nobodyIsStruckOffEmptyLists() {
        Checks.due(NONE, new UnaskedGuests().strike(0));
        Checks.due(NONE, Checks.told("house;").strike(1));
        Checks.due(NONE, Checks.told("house;bore 0 0 9;bore 0 0 0;").strike(0));
    }

    static void aStrikeIsToldOnlyIfMoreDinnersBegin() {
        UnaskedGuests x = Checks.told("house 0;bore 0 0 4;bore 0 6 4;");
        Checks.due(1, x.runs(1, 0));
        Checks.due(NONE, x.strike(0));
        Checks.due(NONE, x.strike(1));
        x.fancy(0, 1, 5);
        Checks.due(0, x.strike(0));
        Checks.due(1, x.strike(1));
        x.fancy(0, 0, 5);
        Checks.due(NONE, x.strike(0));
    }

    static void ofSeveralStrikesTheLeastIsTold() {
        UnaskedGuests x = fullCounty();
        x.invite(3, 5, true);
        x.fancy(3, 5, 0);
        Checks.due(35, x.strike(0));
        Checks.due(1, x.strike(1));
        x.invite(0, 1, true);
        x.fancy(0, 1, 4);
        Checks.due(1, x.strike(0));
        x.invite(0, 0, true);
        x.fancy(0, 0, 4);
        Checks.due(0, x.strike(0));
        Checks.due(1, x.strike(1));
        Checks.due(32, x.house(3, 0));
    }

    // ---- late, most

    static void lateIsAskedOfAComer() {
        comersOf("late", (x, c) -> x.late(c));
    }

    static void lateIsStateOfOneWhoGoesToNoneThoughNoHourWouldDo() {
        Checks.due(STATE, Checks.told("house;bore 9 0 0;").late(0));
        Checks.due(STATE, Checks.told("house;bore 9 0 9;").late(0));
        Checks.due(STATE, Checks.told("bore 9 0 9;").late(0));
    }

    static void lateIsHour0ToHour6OrNone() {
        Checks.due(6, Checks.told("house;bore 0 0 4;").late(0));
        Checks.due(NONE, Checks.told("house;bore 0 0 5;").late(0));
        Checks.due(NONE, Checks.told("house 0;bore 0 0 0;").late(0));
        // an enemy needs an HOUR for each that he is LIKED above 4
        for (int liked = 5; liked <= 9; liked++) {
            Checks.due(10 - liked, Checks.told("house;enemy 0 6 " + liked + ";").late(0));
        }
        // a third comes in HOUR 1: only in HOUR 0 is he liked 1 less
        Checks.due(0, Checks.told("house 1 2;enemy 0 6 5;friend 0 0 5;friend 0 1 5;").late(0));
        Checks.due(NONE, Checks.told("house 1 2;enemy 0 6 6;friend 0 0 5;friend 0 1 5;").late(0));
    }

    static void lateIsOfTheHouseWhereHeGoesAlone() {
        UnaskedGuests x = Checks.told("house;house;bore 0 0 9;bore 1 0 0;");
        Checks.due(NONE, x.late(0));
        Checks.due(6, x.late(1));
    }

    static void mostIsAskedOfAHouseAndAComer() {
        housesOf("most", (x, h) -> x.most(h, 0));
        comersOf("most", (x, c) -> x.most(0, c));
    }

    static void mostIs4To9OrNone() {
        Checks.due(4, Checks.told("house;bore 0 0 9;").most(0, 0));
        for (int hour = 0; hour <= 6; hour++) {
            Checks.due(Math.min(9, 10 - hour), Checks.told("house;enemy 0 " + hour + " 0;").most(0, 0));
        }
        Checks.due(NONE, Checks.told("house 0;bore 0 0 0;").most(0, 0));
        Checks.due(NONE, Checks.told("house;bore 9 0 0;").most(0, 0));
        Checks.due(9, Checks.told("house;bore 0 0 4;bore 9 0 9;").most(0, 1));
    }

    static void mostIsOfThatHouseAlone() {
        UnaskedGuests x = fullCounty();
        Checks.due(4, x.most(3, 5));
        Checks.due(NONE, x.most(2, 5));
        Checks.due(4, x.most(0, 0));
        Checks.due(NONE, x.most(3, 0));
    }

    // ---- kind, pair

    static void kindIsAskedBy0And1In0To60Evenings() {
        comersOf("kind", (x, c) -> x.kind(c, 1, 0));
        whatOf("kind", 1, (x, what) -> x.kind(0, 1, what));
        Checks.bounds("kind", AdviceEdges::county, 0, 60, (x, n) -> x.kind(0, n, 0));
        Checks.bounds("kind", AdviceEdges::county, 0, 60, (x, n) -> x.kind(0, n, 1));
    }

    static void in0EveningsTheFirstKindBeginsNone() {
        UnaskedGuests x = Checks.told("house;enemy 0 0 0;");
        Checks.due(0, x.kind(0, 0, 0));
        Checks.due(0, x.kind(0, 0, 1));
    }

    static void ofSeveralKindsTheFirst() {
        UnaskedGuests x = Checks.told("house;enemy 0 6 6;");
        Checks.due(0, x.kind(0, 2, 0));
        Checks.due(3, x.kind(0, 3, 0));
        Checks.due(1, x.kind(0, 3, 1));
        Checks.due(58, x.kind(0, 60, 1));
        Checks.due(57, x.kind(0, 59, 1));
        x.fancy(0, 0, 4);
        Checks.due(0, x.kind(0, 60, 0));
        Checks.due(60, x.kind(0, 60, 1));
    }

    static void pairIsAskedOfTwoBy0To2() {
        comersOf("pair", (x, c) -> x.pair(c, c == 0 ? 1 : 0, 0));
        comersOf("pair", (x, d) -> x.pair(d == 0 ? 1 : 0, d, 0));
        whatOf("pair", 2, (x, what) -> x.pair(0, 1, what));
    }

    static void aPairThatIsAlikeIsBad() {
        UnaskedGuests x = fullCounty();
        for (int c = 0; c < 6; c++) {
            for (int what = 0; what < 3; what++) {
                Checks.due(BAD, x.pair(c, c, what));
            }
        }
        Checks.due(0, x.pair(5, 4, 0));
    }

    static void ofSeveralPairsTheFirstByTheFirstsHouseAndThenTheSeconds() {
        UnaskedGuests x = Checks.told("house;house;house;house;bore 9 0 0;bore 9 0 0;");
        Checks.due(2, x.pair(0, 1, 0));
        Checks.due(0, x.pair(0, 1, 1));
        Checks.due(1, x.pair(0, 1, 2));
        Checks.due(0, x.pair(1, 0, 1));
        Checks.due(1, x.pair(1, 0, 2));
        x.fancy(0, 0, 5);
        Checks.due(1, x.pair(0, 1, 1));
        Checks.due(0, x.pair(0, 1, 2));
        x.fancy(0, 1, 5);
        x.fancy(1, 0, 5);
        x.fancy(1, 1, 5);
        x.fancy(2, 0, 5);
        Checks.due(3, x.pair(0, 1, 1));
        Checks.due(2, x.pair(0, 1, 2));
    }

    static void inAPairNoneIsTheLast() {
        UnaskedGuests homeless = Checks.told("bore 9 0 0;bore 9 0 0;");
        Checks.due(0, homeless.pair(0, 1, 0));
        Checks.due(9, homeless.pair(0, 1, 1));
        Checks.due(9, homeless.pair(0, 1, 2));
        UnaskedGuests nothing = Checks.told("house;house;bore 9 0 9;bore 9 0 9;");
        Checks.due(0, nothing.pair(0, 1, 1));
        Checks.due(0, nothing.pair(0, 1, 2));
        // with three there the enemy stays liked: one of the two friends goes to none
        UnaskedGuests third = Checks.told("house 1 2;enemy 0 0 9;friend 0 0 9;friend 0 0 9;");
        Checks.due(1, third.pair(1, 2, 0));
        Checks.due(0, third.pair(1, 2, 1));
        Checks.due(9, third.pair(1, 2, 2));
        Checks.due(0, third.comer(1, 1));
    }

    // ---- luck, mean

    static void luckIsAskedBy0And1Of0To10() {
        housesOf("luck", (x, h) -> x.luck(5, h, 0));
        whatOf("luck", 1, (x, what) -> x.luck(5, 0, what));
        Checks.bounds("luck", AdviceEdges::county, 0, 10, (x, v) -> x.luck(v, 0, 0));
        Checks.bounds("luck", AdviceEdges::county, 0, 10, (x, v) -> x.luck(v, 0, 1));
    }

    static void by0OutOfTenAllComeAndBy10NobodyDoes() {
        UnaskedGuests x = county();
        for (int h = 0; h < 3; h++) {
            Checks.fraction(h < 2 ? 1 : 0, 1, x.luck(0, h, 0), x.luck(0, h, 1));
            Checks.fraction(0, 1, x.luck(10, h, 0), x.luck(10, h, 1));
        }
        Checks.fraction(2, 1, x.mean(0, 0), x.mean(0, 1));
        Checks.fraction(0, 1, x.mean(10, 0), x.mean(10, 1));
    }

    static void fractionsAreInLowestTerms() {
        UnaskedGuests x = Checks.told("house;house;bore 0 0 0;bore 1 0 0;");
        long[][] want = {{1, 1}, {9, 10}, {4, 5}, {7, 10}, {3, 5}, {1, 2}, {2, 5}, {3, 10}, {1, 5}, {1, 10}, {0, 1}};
        long[][] mean = {{2, 1}, {9, 5}, {8, 5}, {7, 5}, {6, 5}, {1, 1}, {4, 5}, {3, 5}, {2, 5}, {1, 5}, {0, 1}};
        for (int v = 0; v <= 10; v++) {
            Checks.fraction(want[v][0], want[v][1], x.luck(v, 0, 0), x.luck(v, 0, 1));
            Checks.fraction(mean[v][0], mean[v][1], x.mean(v, 0), x.mean(v, 1));
        }
    }

    static void sixComersGiveMillionths() {
        UnaskedGuests x = Checks.told("house;" + "bore 0 0 0;".repeat(6));
        Checks.fraction(999999, 1000000, x.luck(1, 0, 0), x.luck(1, 0, 1));
        Checks.fraction(468559, 1000000, x.luck(9, 0, 0), x.luck(9, 0, 1));
        Checks.fraction(63, 64, x.luck(5, 0, 0), x.luck(5, 0, 1));
        Checks.fraction(63, 64, x.mean(5, 0), x.mean(5, 1));
    }

    static void withNobodyOrNoHouseItIs0By1() {
        UnaskedGuests nobody = Checks.told("house;house;");
        UnaskedGuests none = new UnaskedGuests();
        UnaskedGuests homeless = Checks.told("bore 9 0 0;");
        for (int v = 0; v <= 10; v++) {
            Checks.fraction(0, 1, nobody.luck(v, 1, 0), nobody.luck(v, 1, 1));
            Checks.fraction(0, 1, nobody.mean(v, 0), nobody.mean(v, 1));
            Checks.fraction(0, 1, none.mean(v, 0), none.mean(v, 1));
            Checks.fraction(0, 1, homeless.mean(v, 0), homeless.mean(v, 1));
        }
    }

    static void meanIsAskedBy0And1Of0To10() {
        whatOf("mean", 1, (x, what) -> x.mean(5, what));
        Checks.bounds("mean", AdviceEdges::county, 0, 10, (x, v) -> x.mean(v, 0));
        Checks.bounds("mean", AdviceEdges::county, 0, 10, (x, v) -> x.mean(v, 1));
        Checks.bounds("mean", UnaskedGuests::new, 0, 10, (x, v) -> x.mean(v, 1));
    }

    static void meanMayBeOfFourHouses() {
        UnaskedGuests x = Checks.told("house;house;house;house;bore 0 0 0;bore 1 0 0;bore 2 0 0;bore 3 6 0;bore 3 6 0;");
        Checks.fraction(4, 1, x.mean(0, 0), x.mean(0, 1));
        Checks.fraction(9, 4, x.mean(5, 0), x.mean(5, 1));
        Checks.fraction(369, 100, x.mean(1, 0), x.mean(1, 1));
    }

    static void whoStaysAtHomeIsNoCompany() {
        UnaskedGuests x = Checks.told("house 1 2;enemy 0 0 9;friend 0 0 9;friend 0 0 9;");
        Checks.fraction(3, 8, x.luck(5, 0, 0), x.luck(5, 0, 1));
        Checks.fraction(171, 1000, x.luck(1, 0, 0), x.luck(1, 0, 1));
        Checks.due(9, x.likes(0, 0));
    }

    // ---- see, forget, kinds, levels, ask

    static void seeIsOf0To9EveningsAHouseAnHour0To7() {
        Checks.bounds("see", AdviceEdges::county, 0, 9, (x, n) -> x.see(n, 0, 0));
        housesOf("see", (x, h) -> x.see(0, h, 0));
        Checks.bounds("see", AdviceEdges::county, 0, 7, (x, t) -> x.see(0, 0, t));
    }

    private static UnaskedGuests sixSeen() {
        UnaskedGuests x = county();
        for (int i = 1; i <= 6; i++) {
            Checks.due(i, x.see(0, 0, 3));
        }
        return x;
    }

    static void theSixthIsSeenAndTheSeventhIsFull() {
        UnaskedGuests x = sixSeen();
        Checks.due(FULL, x.see(0, 0, 4));
        Checks.due(6, x.count(0));
        Checks.due(8, x.kinds(1));
        Checks.due(6, x.forget(5));
        Checks.due(6, x.see(0, 0, 4));
        Checks.due(0, x.kinds(1));
        Checks.due(FULL, x.see(9, 2, 7));
    }

    static void badComesAheadOfFullWhenSixAreSeen() {
        UnaskedGuests x = sixSeen();
        Checks.due(BAD, x.see(10, 0, 0));
        Checks.due(BAD, x.see(-1, 0, 0));
        Checks.due(BAD, x.see(0, 3, 0));
        Checks.due(BAD, x.see(0, -1, 0));
        Checks.due(BAD, x.see(0, 0, 8));
        Checks.due(BAD, x.see(0, 0, -1));
    }

    static void forgetKeeps0ToAllOfTheSeen() {
        Checks.bounds("forget of 0", AdviceEdges::county, 0, 0, UnaskedGuests::forget);
        Checks.bounds("forget of 6", AdviceEdges::sixSeen, 0, 6, UnaskedGuests::forget);
        Checks.bounds("forget of a new object", UnaskedGuests::new, 0, 0, UnaskedGuests::forget);
    }

    static void forgetKeepsTheFirstAndTellsHowManyThereWere() {
        UnaskedGuests x = county();
        x.see(0, 0, 3);
        x.see(0, 0, 4);
        Checks.due(2, x.forget(2));
        Checks.due(0, x.kinds(1));
        Checks.due(2, x.forget(1));
        Checks.due(8, x.kinds(1));
        Checks.due(BAD, x.forget(2));
        Checks.due(8, x.kinds(1));
        Checks.due(1, x.forget(0));
        Checks.due(15, x.kinds(1));
        Checks.due(0, x.forget(0));
    }

    static void kindsAreAskedOfAComer() {
        comersOf("kinds", (x, c) -> x.kinds(c));
    }

    static void whereNothingIsSeenAllKindsAndLevelsAreLeft() {
        UnaskedGuests x = fullCounty();
        for (int c = 0; c < 6; c++) {
            Checks.due(15, x.kinds(c));
            for (int h = 0; h < 4; h++) {
                Checks.due(1023, x.levels(h, c));
            }
        }
    }

    static void byWhatCanNotBeNoKindAndNoLevelIsLeft() {
        UnaskedGuests x = county();
        x.see(0, 2, 0);
        Checks.due(0, x.kinds(0));
        Checks.due(0, x.levels(0, 0));
        Checks.due(0, x.levels(2, 0));
    }

    static void dinnersSeenBehind0And9EveningsInHour6AndFasting() {
        UnaskedGuests x = Checks.told("house;bore 0 6 9;");
        x.see(0, 0, 7);
        x.see(4, 0, 7);
        Checks.due(15, x.kinds(0));
        x.see(9, 0, 6);
        Checks.due(8, x.kinds(0));
        x.see(5, 0, 6);
        Checks.due(8, x.kinds(0));
        x.see(5, 0, 7);
        Checks.due(0, x.kinds(0));
    }

    static void kindsAreBits0To3AndOfThatComerAlone() {
        UnaskedGuests x = Checks.told("house 0;house;bore 0 0 0;enemy 1 6 9;");
        x.see(5, 1, 6);
        Checks.due(8, x.kinds(1));
        Checks.due(15, x.kinds(0));
        x.forget(0);
        x.see(5, 1, 7);
        Checks.due(7, x.kinds(1));
        Checks.due(0, x.kinds(0));
        Checks.due(3, x.comer(1, 0));
    }

    static void levelsAreAskedOfAHouseAndAComer() {
        housesOf("levels", (x, h) -> x.levels(h, 0));
        comersOf("levels", (x, c) -> x.levels(0, c));
    }

    static void levelsAreBits0To9() {
        UnaskedGuests x = Checks.told("house;bore 0 0 5;");
        x.see(0, 0, 0);
        Checks.due(31, x.levels(0, 0));
        x.forget(0);
        x.see(0, 0, 7);
        Checks.due(992, x.levels(0, 0));
        UnaskedGuests enemy = Checks.told("house;enemy 0 0 0;");
        int[] hours = {31, 32, 64, 128, 256, 512, 0, 0};
        for (int t = 0; t <= 7; t++) {
            enemy.forget(0);
            enemy.see(0, 0, t);
            Checks.due("seen in " + t, hours[t], enemy.levels(0, 0));
        }
    }

    static void askIsAskedBy0And1() {
        comersOf("ask", (x, c) -> x.ask(c, 0));
        comersOf("ask", (x, c) -> x.ask(c, 1));
        whatOf("ask", 1, (x, what) -> x.ask(0, what));
    }

    static void askIsNoneWhereNoQuestionLeavesFewer() {
        UnaskedGuests x = Checks.told("house;bore 0 0 4;");
        Checks.due(NONE, x.ask(0, 0));
        Checks.due(NONE, x.ask(0, 1));
        UnaskedGuests homeless = Checks.told("bore 9 0 0;");
        Checks.due(NONE, homeless.ask(0, 0));
        // one kind is left
        UnaskedGuests one = Checks.told("house;enemy 0 0 6;");
        one.see(0, 0, 2);
        Checks.due(8, one.kinds(0));
        Checks.due(NONE, one.ask(0, 0));
        Checks.due(NONE, one.ask(0, 1));
        // no kind is left
        one.see(0, 0, 3);
        Checks.due(0, one.kinds(0));
        Checks.due(NONE, one.ask(0, 0));
        Checks.due(NONE, one.ask(0, 1));
    }

    static void askIsOfTheLeastEveningsAndThenTheLeastHouse() {
        UnaskedGuests tonight = Checks.told("house;house;house;house;enemy 3 0 6;");
        Checks.due(3, tonight.ask(0, 0));
        Checks.due(3, tonight.ask(0, 1));
        // an enemy who comes at 6 is UNWELCOME behind 1 to 5 evenings
        for (int liked = 5; liked <= 9; liked++) {
            UnaskedGuests x = Checks.told("house;house;bore 1 6 " + liked + ";");
            Checks.due(10 * (liked - 4) + 1, x.ask(0, 0));
            Checks.due(3, x.ask(0, 1));
        }
    }

    static void askWhenSixAreSeenAlready() {
        UnaskedGuests x = Checks.told("house;bore 0 0 6;house;");
        for (int i = 0; i < 6; i++) {
            x.see(0, 1, 7);
        }
        Checks.due(0, x.ask(0, 0));
        Checks.due(3, x.ask(0, 1));
        Checks.due(6, x.count(0));
    }
}
