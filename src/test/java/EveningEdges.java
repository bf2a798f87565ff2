/** The boundary cases of an EVENING: HOURS, WARMS, UNWELCOME, FASTING, and the calls by evenings (6, 7, 13 to 16, 31). */
public final class EveningEdges {
    private static final int BAD = UnaskedGuests.BAD, STATE = UnaskedGuests.STATE;
    private static final int FULL = UnaskedGuests.FULL, NONE = UnaskedGuests.NONE;
    private static final int MIN = Integer.MIN_VALUE, MAX = Integer.MAX_VALUE;

    public static void main(String[] args) throws Exception {
        Checks.runAll(EveningEdges.class);
    }

    private static UnaskedGuests county() {
        return Checks.told(Checks.COUNTY);
    }

    /** One HOUSE with all on its LIST, so that it fasts; comer 0 is first. */
    private static UnaskedGuests fasting(String comers) {
        UnaskedGuests x = Checks.told(comers + "house;");
        int n = x.rule(1);
        for (int c = 0; c < n; c++) {
            x.invite(0, c, true);
        }
        return x;
    }

    /** What comer 0 is LIKED behind one EVENING there. */
    private static void warms(String comers, int liked) {
        UnaskedGuests x = fasting(comers);
        Checks.due(comers, 0, x.evenings(1));
        Checks.due(comers, liked, x.likes(0, 0));
    }

    private static UnaskedGuests atEvening(UnaskedGuests x, int evening) {
        for (int i = 0; i < evening / 30; i++) {
            x.evenings(30);
        }
        x.evenings(evening % 30);
        Checks.due("EVENING", evening, x.rule(2));
        return x;
    }

    // ---- unwelcome

    static void unwelcomeIsWhoIsLiked4OrLess() {
        for (int liked = 0; liked <= 9; liked++) {
            UnaskedGuests x = Checks.told("house;bore 0 0 " + liked + ";");
            Checks.due("liked " + liked, liked <= 4 ? 1 : 0, x.house(0, 4));
            Checks.due("liked " + liked, liked <= 4 ? 0 : NONE, x.house(0, 2));
        }
    }

    static void whoIsOnTheListIsNotUnwelcomeHoweverLittleLiked() {
        UnaskedGuests x = Checks.told("house 0;house 1;bore 0 0 0;bore 0 6 0;");
        Checks.due(2, x.house(0, 4));
        Checks.due(1, x.house(1, 4));
        Checks.due(6, x.house(0, 2));
        Checks.due(1, x.house(0, 3));
    }

    static void unwelcomeIsToldOfAllComersAlsoOfThoseWhoAreElsewhere() {
        UnaskedGuests x = Checks.told("house;house;bore 1 0 4;bore 9 0 0;bore 0 0 5;");
        Checks.due(3, x.house(0, 4));
        Checks.due(3, x.house(1, 4));
        Checks.due(NONE, x.house(0, 2));
        UnaskedGuests all = Checks.told("house;" + "bore 9 0 4;".repeat(6));
        Checks.due(63, all.house(0, 4));
    }

    // ---- hours

    static void dinnerBeginsInTheHourInWhichHeComes0To6() {
        for (int hour = 0; hour <= 6; hour++) {
            UnaskedGuests x = Checks.told("house;bore 0 " + hour + " 4;");
            Checks.due(hour, x.house(0, 2));
            Checks.due(0, x.house(0, 3));
            Checks.due(hour, x.rule(4));
            Checks.due(1, x.rule(3));
        }
    }

    static void thereAreAlsoThoseWhoCameAheadOfTheHour() {
        UnaskedGuests x = Checks.told("house;enemy 0 2 6;");
        Checks.due(4, x.house(0, 2));
    }

    static void dinnerBeginsInHour6OrNotAtAll() {
        UnaskedGuests x = Checks.told("house;enemy 0 4 6;");
        Checks.due(6, x.house(0, 2));
        Checks.due(1, x.evenings(1));
        UnaskedGuests late = Checks.told("house;enemy 0 5 6;");
        Checks.due(NONE, late.house(0, 2));
        Checks.due(NONE, late.house(0, 3));
        Checks.due(0, late.evenings(1));
    }

    static void theyWarmInHour6Too() {
        UnaskedGuests x = Checks.told("house;enemy 0 6 5;");
        Checks.due(0, x.evenings(1));
        Checks.due(4, x.likes(0, 0));
        Checks.due(6, x.house(0, 2));
    }

    static void nobodyWarmsInTheHourInWhichDinnerBeginsNorBehindIt() {
        UnaskedGuests x = Checks.told("house 0 2;friend 0 0 3;bore 0 2 4;friend 0 4 3;");
        Checks.due(1, x.evenings(1));
        Checks.due(5, x.likes(0, 0));
        Checks.due(4, x.likes(0, 1));
        Checks.due(3, x.likes(0, 2));
        UnaskedGuests atOnce = Checks.told("house 0;friend 0 0 3;bore 0 0 4;");
        Checks.due(1, atOnce.evenings(1));
        Checks.due(3, atOnce.likes(0, 0));
    }

    static void ofSeveralDinnerBeginsByTheFirstByOrder() {
        UnaskedGuests x = Checks.told("house;bore 0 3 5;bore 0 2 4;bore 0 2 0;bore 0 0 9;");
        Checks.due(2, x.house(0, 2));
        Checks.due(1, x.house(0, 3));
        UnaskedGuests last = Checks.told("house 0 1 2 3 4;" + "bore 0 0 0;".repeat(6));
        Checks.due(5, last.house(0, 3));
    }

    static void whoComesFirstBeginsAheadOfTheFirstByOrder() {
        UnaskedGuests x = Checks.told("house;bore 0 1 0;bore 0 0 0;");
        Checks.due(0, x.house(0, 2));
        Checks.due(1, x.house(0, 3));
    }

    static void whoGoesElsewhereOrToNoneIsNotThere() {
        UnaskedGuests x = Checks.told("house;house;bore 1 0 0;bore 9 0 0;");
        Checks.due(NONE, x.house(0, 2));
        Checks.due(0, x.house(1, 2));
        Checks.due(0, x.house(1, 3));
        Checks.due(2, x.rule(3));
        Checks.due(7, x.rule(4));
        Checks.due(0, x.house(0, 1));
        Checks.due(1, x.house(1, 1));
    }

    static void aHouseThatFastsWaits7Hours() {
        Checks.due(7, Checks.told("house;").rule(4));
        Checks.due(28, Checks.told("house;house;house;house;").rule(4));
        Checks.due(0, Checks.told("house;bore 0 0 0;").rule(4));
        Checks.due(6, Checks.told("house;bore 0 6 0;").rule(4));
        Checks.due(0, Checks.told("bore 9 0 0;").rule(4));
    }

    static void dinnerBeginsAtAllHousesOrAtNone() {
        UnaskedGuests x = Checks.told("house;house;house;house;bore 0 0 0;bore 1 1 0;bore 2 2 0;bore 3 6 0;");
        Checks.due(15, x.rule(3));
        Checks.due(9, x.rule(4));
        Checks.due(4, x.evenings(1));
        Checks.due(0, Checks.told(Checks.FULL_COUNTY).rule(3));
    }

    static void atEachHouseForItself() {
        UnaskedGuests x = Checks.told("house 0;house 1;house 2;bore 0 0 5;bore 1 0 5;bore 2 0 5;");
        x.evenings(1);
        for (int h = 0; h < 3; h++) {
            for (int c = 0; c < 3; c++) {
                Checks.due(5, x.likes(h, c));
            }
        }
        UnaskedGuests friend = Checks.told("house 0;house 0;friend 1 6 2;");
        friend.evenings(1);
        Checks.due(2, friend.likes(0, 0));
        Checks.due(3, friend.likes(1, 0));
    }

    // ---- warms

    static void aFriendIsLiked1MoreAnd9AtMost() {
        for (int liked = 0; liked <= 9; liked++) {
            warms("friend 0 6 " + liked + ";", Math.min(9, liked + 1));
        }
        warms("friend 0 4 5;", 8);
        warms("friend 0 4 7;", 9);
        warms("friend 0 0 0;", 7);
    }

    static void aBoreStaysAsHeIsAmong1Or2() {
        for (int liked = 0; liked <= 9; liked++) {
            warms("bore 0 0 " + liked + ";", liked);
            warms("bore 0 0 " + liked + ";friend 0 0 0;", liked);
        }
    }

    static void aBoreIsAsAFriendAmong3OrMoreHimTooAnd9AtMost() {
        for (int liked = 0; liked <= 9; liked++) {
            warms("bore 0 6 " + liked + ";friend 0 0 0;aunt 0 6 0;", Math.min(9, liked + 1));
        }
        warms("bore 0 6 3;bore 0 0 0;bore 0 0 0;bore 0 0 0;", 4);
        warms("bore 0 6 3;" + "bore 0 0 0;".repeat(5), 4);
    }

    static void onlyThoseWhoAreThereInThatHourAreCompanyForABore() {
        warms("bore 0 0 3;friend 0 0 0;friend 0 5 0;", 5);
        warms("bore 0 0 3;friend 0 0 0;friend 0 6 0;", 4);
        warms("bore 0 0 3;friend 0 0 0;friend 9 0 0;", 3);
    }

    static void anAuntIsLiked1MoreThanAFriendAnd9AtMost() {
        for (int liked = 0; liked <= 9; liked++) {
            warms("aunt 0 6 " + liked + ";", Math.min(9, liked + 2));
        }
        warms("aunt 0 5 4;", 8);
        warms("aunt 0 5 5;", 9);
        warms("aunt 0 5 6;", 9);
    }

    static void anEnemyIsLiked1LessAnd0AtLeast() {
        for (int liked = 0; liked <= 9; liked++) {
            warms("enemy 0 6 " + liked + ";", Math.max(0, liked - 1));
            warms("enemy 0 6 " + liked + ";friend 0 0 0;", Math.max(0, liked - 1));
        }
        warms("enemy 0 5 1;", 0);
        warms("enemy 0 0 9;", 2);
    }

    static void anEnemyAmong3OrMoreStaysAsHeIsBut8At9() {
        for (int liked = 0; liked <= 9; liked++) {
            warms("enemy 0 6 " + liked + ";friend 0 0 0;friend 0 0 0;", Math.min(8, liked));
        }
        warms("enemy 0 0 9;friend 0 0 0;friend 0 0 0;", 8);
    }

    // ---- evening, evenings

    static void eveningIs0AtFirstAndThen1More() {
        UnaskedGuests x = Checks.told("house;");
        Checks.due(0, x.rule(2));
        x.evenings(1);
        Checks.due(1, x.rule(2));
        x.evenings(30);
        Checks.due(31, x.rule(2));
        UnaskedGuests nobody = new UnaskedGuests();
        Checks.due(0, nobody.evenings(30));
        Checks.due(30, nobody.rule(2));
    }

    static void evenings0To30() {
        Checks.bounds("evenings", EveningEdges::county, 0, 30, UnaskedGuests::evenings);
    }

    static void evenings0ChangesNothing() {
        UnaskedGuests x = county();
        Checks.due(0, x.evenings(0));
        Checks.due(0, x.rule(2));
        Checks.due(51, x.count(5));
    }

    static void evenings30AreAsThirtyTimesOne() {
        String text = "house 1;house;enemy 0 6 9;friend 0 0 0;enemy 1 5 9;aunt 1 6 0;";
        UnaskedGuests at = Checks.told(text);
        UnaskedGuests by = Checks.told(text);
        int begun = 0;
        for (int i = 0; i < 30; i++) {
            begun += by.evenings(1);
        }
        Checks.due(begun, at.evenings(30));
        for (int h = 0; h < 2; h++) {
            for (int c = 0; c < 4; c++) {
                Checks.due(by.likes(h, c), at.likes(h, c));
            }
        }
    }

    static void eveningMayBe999AndNot1000() {
        UnaskedGuests x = atEvening(Checks.told("house;bore 0 0 0;"), 969);
        Checks.due(30, x.evenings(30));
        Checks.due(999, x.rule(2));
        Checks.due(FULL, x.evenings(1));
        Checks.due(FULL, x.evenings(30));
        Checks.due(0, x.evenings(0));
        Checks.due(999, x.rule(2));
        UnaskedGuests y = atEvening(Checks.told("house;bore 0 0 0;"), 970);
        Checks.due(FULL, y.evenings(30));
        Checks.due(970, y.rule(2));
        Checks.due(29, y.evenings(29));
        Checks.due(999, y.rule(2));
    }

    static void eveningsThatAreFullChangeNoLiking() {
        UnaskedGuests x = atEvening(Checks.told("house 0;friend 0 6 0;"), 999);
        Checks.due(9, x.likes(0, 0));
        x.fancy(0, 0, 3);
        Checks.due(FULL, x.evenings(1));
        Checks.due(3, x.likes(0, 0));
    }

    static void badComesAheadOfFull() {
        UnaskedGuests x = atEvening(Checks.told("house;"), 999);
        Checks.due(BAD, x.evenings(31));
        Checks.due(BAD, x.evenings(-1));
        Checks.due(BAD, x.evenings(MAX));
        Checks.due(BAD, x.evenings(MIN));
    }

    // ---- by evenings: runs, ahead, begins

    static void runs0To60() {
        for (int what = 0; what < 4; what++) {
            int asked = what;
            Checks.bounds("runs", EveningEdges::county, 0, 60, (x, n) -> x.runs(n, asked));
        }
        Checks.bounds("runs", EveningEdges::county, 0, 3, (x, what) -> x.runs(60, what));
        Checks.bounds("runs", EveningEdges::county, 0, 3, (x, what) -> x.runs(0, what));
    }

    static void runsOf0AreNoneAndAllIsAsItIs() {
        UnaskedGuests x = county();
        Checks.due(0, x.runs(0, 0));
        Checks.due(0, x.runs(0, 1));
        Checks.due(NONE, x.runs(0, 2));
        Checks.due(51, x.runs(0, 3));
    }

    static void runsOf60AreAllSixty() {
        UnaskedGuests x = Checks.told("house;house;bore 0 5 0;");
        Checks.due(60, x.runs(60, 0));
        Checks.due(720, x.runs(60, 1));
        Checks.due(59, x.runs(59, 0));
        Checks.due(708, x.runs(59, 1));
    }

    static void aHouseWasFirstFastingBehindOneEveningOrNone() {
        UnaskedGuests x = Checks.told("house;house;bore 0 0 0;bore 1 6 0;");
        Checks.due(NONE, x.runs(60, 2));
        x.fancy(1, 1, 5);
        Checks.due(1, x.runs(60, 2));
        Checks.due(1, x.runs(1, 2));
        Checks.due(NONE, x.runs(0, 2));
        Checks.due(NONE, new UnaskedGuests().runs(60, 2));
    }

    static void runsWithNoHouseOrNobody() {
        UnaskedGuests none = new UnaskedGuests();
        UnaskedGuests nobody = Checks.told("house;");
        for (int what = 0; what < 4; what++) {
            Checks.due(what == 2 ? NONE : 0, none.runs(60, what));
        }
        Checks.due(0, nobody.runs(60, 0));
        Checks.due(420, nobody.runs(60, 1));
        Checks.due(1, nobody.runs(60, 2));
        Checks.due(0, nobody.runs(60, 3));
    }

    static void allLikingsThenMayBe216() {
        UnaskedGuests x = Checks.told(Checks.FULL_COUNTY);
        Checks.due(216, x.runs(0, 3));
        Checks.due(216, x.runs(60, 3));
        Checks.due(216, x.count(5));
    }

    static void ahead0To60() {
        Checks.bounds("ahead", EveningEdges::county, 0, 60, (x, n) -> x.ahead(0, 0, n));
        Checks.bounds("ahead", EveningEdges::county, 0, 2, (x, h) -> x.ahead(h, 0, 0));
        Checks.bounds("ahead", EveningEdges::county, 0, 3, (x, c) -> x.ahead(0, c, 0));
    }

    static void aheadOf0IsAsItIsAndThenAnEveningMore() {
        UnaskedGuests x = Checks.told("house;enemy 0 6 9;");
        int[] liked = {9, 8, 7, 6, 5, 4, 4, 4};
        for (int n = 0; n < liked.length; n++) {
            Checks.due(liked[n], x.ahead(0, 0, n));
        }
        Checks.due(4, x.ahead(0, 0, 60));
        Checks.due(9, x.likes(0, 0));
    }

    static void begins0To60() {
        Checks.bounds("begins", EveningEdges::county, 0, 60, (x, n) -> x.begins(0, n));
        Checks.bounds("begins", EveningEdges::county, 0, 2, (x, h) -> x.begins(h, 60));
    }

    static void beginsBehind0IsTonightAndThenAnEveningMore() {
        UnaskedGuests x = Checks.told("house;enemy 0 6 9;");
        for (int n = 0; n < 5; n++) {
            Checks.due(NONE, x.begins(0, n));
        }
        Checks.due(6, x.begins(0, 5));
        Checks.due(6, x.begins(0, 60));
        Checks.due(NONE, x.house(0, 2));
    }

    static void badComesAheadOfNone() {
        UnaskedGuests x = Checks.told("house;");
        Checks.due(NONE, x.begins(0, 0));
        Checks.due(BAD, x.begins(0, 61));
        Checks.due(BAD, x.begins(1, 0));
        Checks.due(BAD, x.runs(0, 4));
        Checks.due(BAD, x.runs(-1, 2));
    }

    static void whatWouldBeIsNotBoundByEvening999() {
        UnaskedGuests x = atEvening(Checks.told("house;bore 0 0 0;"), 999);
        Checks.due(60, x.runs(60, 0));
        Checks.due(0, x.ahead(0, 0, 60));
        Checks.due(0, x.begins(0, 60));
        Checks.due(60, x.kind(0, 60, 1));
        Checks.due(15, x.kinds(0));
        Checks.due(999, x.rule(2));
    }

    // ---- by a seed

    static void drift1To60() {
        Checks.bounds("drift", EveningEdges::county, 1, 60, (x, n) -> x.drift(7, n, 0));
        Checks.bounds("drift", EveningEdges::county, 0, 1, (x, what) -> x.drift(7, 1, what));
    }

    static void driftWithNoHouseOrNobodyIsState() {
        UnaskedGuests nobody = Checks.told("house;");
        UnaskedGuests homeless = Checks.told("bore 9 0 0;");
        for (UnaskedGuests x : new UnaskedGuests[] {nobody, homeless, new UnaskedGuests()}) {
            Checks.due(STATE, x.drift(7, 1, 0));
            Checks.due(STATE, x.drift(7, 60, 1));
            Checks.due(BAD, x.drift(7, 0, 0));
            Checks.due(BAD, x.drift(7, 61, 0));
            Checks.due(BAD, x.drift(7, 1, 2));
            Checks.due(BAD, x.drift(7, 1, -1));
        }
    }

    /** Seed 0 becomes 12345, of which bits 16 to 30 are 0. */
    static void seed0SendsTheFirstToTheFirstAtOnce() {
        UnaskedGuests x = Checks.told("house;house;bore 9 6 0;bore 9 6 0;");
        Checks.due(1, x.drift(0, 1, 0));
        Checks.due(7, x.drift(0, 1, 1));
    }

    /** Drift, step by step, by alter() and evenings() on an object of its own; longs do not wrap here. */
    private static void driftsAs(String text, int seed, int n) {
        UnaskedGuests x = Checks.told(text);
        UnaskedGuests by = Checks.told(text);
        int houses = by.rule(0);
        int comers = by.rule(1);
        long rolled = seed & 0xffffffffL;
        int begun = 0;
        int waited = 0;
        for (int i = 0; i < n; i++) {
            rolled = (rolled * 1103515245L + 12345L) % 4294967296L;
            int got = (int) (rolled / 65536L % 32768L);
            by.alter(got % comers, 1, got / 8 % houses);
            by.alter(got % comers, 2, got / 32 % 7);
            waited += by.rule(4);
            begun += by.evenings(1);
        }
        Checks.due("drift(" + seed + ", " + n + ", 0)", begun, x.drift(seed, n, 0));
        Checks.due("drift(" + seed + ", " + n + ", 1)", waited, x.drift(seed, n, 1));
        Checks.due(0, x.rule(2));
    }

    static void seedsWrapAround() {
        String text = "house;house 1;house 0;house;friend 9 0 4;enemy 9 0 6;aunt 9 0 2;bore 9 0 5;enemy 3 6 9;";
        for (int seed : new int[] {0, 1, -1, 2, MIN, MAX, MIN + 1, MAX - 1, 65536, -65536, 7, 1103515245}) {
            driftsAs(text, seed, 1);
            driftsAs(text, seed, 2);
            driftsAs(text, seed, 60);
            driftsAs("house;bore 9 0 4;", seed, 1);
            driftsAs("house;bore 9 0 4;", seed, 60);
        }
    }

    static void driftIsByItself() {
        UnaskedGuests x = county();
        x.drift(7, 60, 0);
        Checks.due(0, x.rule(2));
        Checks.due(51, x.count(5));
        Checks.due(3, x.house(0, 1));
        Checks.due(12, x.house(1, 1));
        Checks.due(20, x.drift(7, 9, 0));
    }
}
