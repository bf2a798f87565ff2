/** For each promise: ordinary inputs, the edges that the document names, wrong inputs. */
public final class PromiseTests {
    private static final int BAD = UnaskedGuests.BAD, STATE = UnaskedGuests.STATE;
    private static final int FULL = UnaskedGuests.FULL, NONE = UnaskedGuests.NONE;

    private static final String COUNTY = Checks.COUNTY;

    public static void main(String[] args) {
        newObject();
        feed();
        end();
        text();
        textReplaces();
        fault();
        rule();
        house();
        comer();
        likes();
        alter();
        fancy();
        invite();
        evenings();
        warming();
        runs();
        ahead();
        begins();
        send();
        swap();
        strike();
        late();
        most();
        kind();
        pair();
        luck();
        mean();
        see();
        forget();
        kinds();
        levels();
        ask();
        drift();
        keep();
        back();
        sheet();
        lay();
        read();
        torn();
        count();
        Checks.finish("all promises hold");
    }

    private static void begin(int number) {
        Checks.sentence("promise " + number);
    }

    private static void due(long want, long got) {
        Checks.due(want, got);
    }

    private static void feedAll(UnaskedGuests x, String text) {
        Checks.feedAll(x, text);
    }

    private static UnaskedGuests told(String text) {
        return Checks.told(text);
    }

    private static void newObject() {
        begin(1);
        UnaskedGuests x = new UnaskedGuests();
        for (int what = 0; what < 6; what++) {
            due(0, x.rule(what));
        }
        for (int what = 0; what < 6; what++) {
            due(what == 3 ? NONE : 0, x.count(what));
        }
        due(0, x.fault());
        due(0, x.torn());
        due(STATE, x.back(0));
        due(BAD, x.house(0, 0));
        due(BAD, x.comer(0, 0));
        for (int k = 0; k < 4; k++) {
            due(-11, x.lay(k, 0, 0));
        }
    }

    private static void feed() {
        begin(2);
        UnaskedGuests x = new UnaskedGuests();
        due(BAD, x.feed(-1));
        due(BAD, x.feed(128));
        due(1, x.feed(0));
        due(2, x.feed(127));
        for (int i = 3; i <= 160; i++) {
            due(i, x.feed(32));
        }
        due(FULL, x.feed(32));
        due(BAD, x.feed(128));
        due(160, x.count(2));
    }

    private static void end() {
        begin(3);
        UnaskedGuests x = new UnaskedGuests();
        due(0, x.end(0));
        due(BAD, x.end(1));
        feedAll(x, "house;xy");
        due(BAD, x.end(-1));
        due(BAD, x.end(9));
        due(8, x.end(8));
        due(8, x.end(6));
        due(6, x.count(2));
        due(7, x.feed(' '));
        due(1, x.text());
        due(0, x.end(0));
    }

    private static void read(String text, int answer, int fault) {
        Checks.reads(text, answer, fault);
    }

    private static void text() {
        begin(4);
        read("", 0, 0);
        read("   ", 0, 0);
        read("house;", 1, 0);
        read("  house  ;  ", 1, 0);
        read("friend9 0 0;bore 9 00 09;aunt 09 6 9;enemy 9 0 0;", 4, 0);
        read("bore 3 0 0;house 0;house 00;house;house;", 5, 0);
        read("house 0 1 2 3 4 5;bore 9 0 0;bore 9 0 0;bore 9 0 0;bore 9 0 0;bore 9 0 0;bore 9 0 0;", 7, 0);
        // 1
        read("House;", -10, 1);
        read("house,;", -15, 1);
        read("house\t;", -15, 1);
        read("123", -10, 1);
        read("house 123;", -16, 1);
        read("friend 9 0 000;", -21, 1);
        read("friend 9 0 0!", -22, 1);
        read("house;" + (char) 127, -16, 1);
        // 2
        read("house", -15, 2);
        read("house ", -16, 2);
        read("houses;", -10, 2);
        read("hous;", -10, 2);
        read("mouse;", -10, 2);
        read("z;", -10, 2);
        read("bored 9 0 0;", -10, 2);
        read(" ;", -11, 2);
        read("7;", -10, 2);
        read("house;;", -16, 2);
        read("house house;", -16, 2);
        read("friend 0 0;", -20, 2);
        read("friend bore", -17, 2);
        read("friend 0 0 0 0;", -23, 2);
        read("friend 9 0 0 ", -23, 2);
        read("house;bore 9 0 0", -26, 2);
        // 3
        read("house 6;", -16, 3);
        read("house 10;", -16, 3);
        read("house 6 6 123", -16, 3);
        read("friend 4 0 0;", -17, 3);
        read("friend 8 0 0;", -17, 3);
        read("friend 10 0 0;", -17, 3);
        read("friend 9 7 0;", -19, 3);
        read("friend 9 0 10;", -21, 3);
        // 4
        read("house 05 5;", -19, 4);
        read("house 0 1 2 3 4 5 0;", -28, 4);
        read("house 0 0 A", -18, 4);
        // 5
        read("house;house;house;house;house;", -34, 5);
        read("house;house;house;house; house A", -35, 5);
        read("bore 9 0 0;bore 9 0 0;aunt 9 0 0;bore 9 0 0;bore 9 0 0;bore 9 0 0;friend", -76, 5);
        // 6
        read("house 1;bore 9 0 0; ", -30, 6);
        read("house;bore 1 0 0;", -27, 6);
        read("house 0;", -18, 6);
        read("house 0;bored", -18, 2);
    }

    private static void textReplaces() {
        begin(4);
        UnaskedGuests x = told(COUNTY);
        x.evenings(3);
        x.see(0, 0, 0);
        x.keep(0);
        x.keep(1);
        feedAll(x, "house;house 9");
        due(-22, x.text());
        due(3, x.rule(0));
        due(4, x.rule(1));
        due(3, x.rule(2));
        due(1, x.count(0));
        due(2, x.count(1));
        feedAll(x, "aunt 0 5 7;house;");
        due(2, x.text());
        due(1, x.rule(0));
        due(1, x.rule(1));
        due(0, x.rule(2));
        due(0, x.rule(5));
        due(7, x.likes(0, 0));
        due(2, x.comer(0, 0));
        due(5, x.comer(0, 2));
        due(0, x.count(0));
        due(0, x.count(1));
        due(STATE, x.back(0));
        due(STATE, x.back(1));
        due(0, x.text());
        due(0, x.rule(0));
        due(0, x.rule(1));
    }

    private static void fault() {
        begin(5);
        UnaskedGuests x = new UnaskedGuests();
        due(0, x.fault());
        feedAll(x, "#");
        due(0, x.fault());
        due(-10, x.text());
        due(1, x.fault());
        due(1, x.fault());
        due(0, x.text());
        due(0, x.fault());
    }

    private static void rule() {
        begin(6);
        UnaskedGuests x = told(COUNTY);
        due(3, x.rule(0));
        due(4, x.rule(1));
        due(0, x.rule(2));
        due(3, x.rule(3));
        due(12, x.rule(4));
        due(2, x.rule(5));
        due(BAD, x.rule(-1));
        due(BAD, x.rule(6));
        due(4, x.likes(0, 0));
        x.evenings(2);
        due(2, x.rule(2));
    }

    private static void house() {
        begin(7);
        UnaskedGuests x = told(COUNTY);
        int[][] want = {{1, 3, 3, 1, 4}, {0, 12, 2, 2, 5}, {4, 0, NONE, NONE, 1}};
        for (int h = 0; h < 3; h++) {
            for (int what = 0; what < 5; what++) {
                due(want[h][what], x.house(h, what));
            }
        }
        due(BAD, x.house(3, 0));
        due(BAD, x.house(-1, 0));
        due(BAD, x.house(0, -1));
        due(BAD, x.house(0, 5));
        // of several who are unwelcome in one hour the first by order opens
        UnaskedGuests y = told("house;bore 0 2 9;bore 0 2 4;bore 0 2 0;bore 0 3 0;");
        due(2, y.house(0, 2));
        due(1, y.house(0, 3));
        due(14, y.house(0, 4));
    }

    private static void comer() {
        begin(8);
        UnaskedGuests x = told(COUNTY);
        int[][] want = {{0, 0, 0, 1, 12}, {3, 0, 1, 0, 18}, {2, 1, 2, 1, 6}, {1, 1, 0, 0, 15}};
        for (int c = 0; c < 4; c++) {
            for (int what = 0; what < 5; what++) {
                due(want[c][what], x.comer(c, what));
            }
        }
        due(BAD, x.comer(4, 0));
        due(BAD, x.comer(-1, 0));
        due(BAD, x.comer(0, -1));
        due(BAD, x.comer(0, 5));
        due(NONE, told("bore 9 0 0;").comer(0, 1));
    }

    private static void likes() {
        begin(9);
        UnaskedGuests x = told(COUNTY);
        for (int h = 0; h < 3; h++) {
            due(4, x.likes(h, 0));
            due(5, x.likes(h, 3));
        }
        due(BAD, x.likes(3, 0));
        due(BAD, x.likes(-1, 0));
        due(BAD, x.likes(0, 4));
        due(BAD, x.likes(0, -1));
    }

    private static void alter() {
        begin(10);
        UnaskedGuests x = told(COUNTY);
        due(0, x.alter(0, 0, 3));
        due(3, x.comer(0, 0));
        due(BAD, x.alter(0, 0, 4));
        due(BAD, x.alter(0, 0, -1));
        due(3, x.alter(0, 0, 0));
        due(0, x.alter(0, 1, 9));
        due(NONE, x.alter(0, 1, 9));
        due(NONE, x.alter(0, 1, 2));
        due(4 + 8, x.house(1, 1));
        due(1, x.house(2, 1));
        due(BAD, x.alter(0, 1, 3));
        due(BAD, x.alter(0, 1, 8));
        due(BAD, x.alter(0, 1, 10));
        due(BAD, x.alter(0, 1, -1));
        due(2, x.comer(0, 1));
        due(1, x.alter(1, 2, 6));
        due(BAD, x.alter(1, 2, 7));
        due(BAD, x.alter(1, 2, -1));
        due(6, x.alter(1, 2, 0));
        due(BAD, x.alter(1, 3, 0));
        due(BAD, x.alter(1, -1, 0));
        due(BAD, x.alter(4, 0, 0));
        due(BAD, x.alter(-1, 0, 0));
    }

    private static void fancy() {
        begin(11);
        UnaskedGuests x = told(COUNTY);
        due(4, x.fancy(0, 0, 9));
        due(9, x.likes(0, 0));
        due(4, x.likes(1, 0));
        due(6, x.likes(0, 1));
        due(BAD, x.fancy(0, 0, 10));
        due(BAD, x.fancy(0, 0, -1));
        due(BAD, x.fancy(3, 0, 0));
        due(BAD, x.fancy(0, 4, 0));
        due(BAD, x.fancy(-1, 0, 0));
        due(BAD, x.fancy(0, -1, 0));
        due(9, x.fancy(0, 0, 0));
    }

    private static void invite() {
        begin(12);
        UnaskedGuests x = told(COUNTY);
        due(1, x.invite(0, 0, true));
        due(0, x.invite(0, 3, true));
        due(9, x.house(0, 0));
        due(1, x.invite(0, 0, false));
        due(0, x.invite(0, 0, false));
        due(8, x.house(0, 0));
        due(4, x.house(2, 0));
        due(BAD, x.invite(3, 0, true));
        due(BAD, x.invite(-1, 0, true));
        due(BAD, x.invite(0, 4, true));
        due(BAD, x.invite(0, -1, false));
    }

    private static void evenings() {
        begin(13);
        UnaskedGuests x = told(COUNTY);
        due(BAD, x.evenings(-1));
        due(BAD, x.evenings(31));
        due(0, x.evenings(0));
        due(0, x.rule(2));
        due(2, x.evenings(1));
        due(7, x.likes(0, 0));
        due(4, x.likes(0, 1));
        due(4, x.likes(1, 0));
        due(4, x.evenings(2));
        due(3, x.rule(2));
        for (int i = 0; i < 33; i++) {
            x.evenings(30);
        }
        due(993, x.rule(2));
        due(FULL, x.evenings(7));
        due(BAD, x.evenings(31));
        due(12, x.evenings(6));
        due(FULL, x.evenings(1));
        due(0, x.evenings(0));
        due(999, x.rule(2));
        UnaskedGuests nobody = new UnaskedGuests();
        due(0, nobody.evenings(5));
        due(5, nobody.rule(2));
    }

    /** One evening at a house where all are on the list; what it likes comer 0 then. */
    private static int warmed(String comers) {
        UnaskedGuests x = told(comers + "house;");
        for (int c = 0; c < x.rule(1); c++) {
            x.invite(0, c, true);
        }
        due(0, x.evenings(1));
        return x.likes(0, 0);
    }

    private static void warming() {
        begin(13);
        due(7, warmed("friend 0 4 4;"));
        due(9, warmed("friend 0 0 4;"));
        due(4, warmed("bore 0 0 4;"));
        due(4, warmed("bore 0 0 4;bore 0 0 4;"));
        due(6, warmed("bore 0 0 4;bore 0 0 4;bore 0 5 4;"));
        due(9, warmed("bore 0 6 9;bore 0 0 4;bore 0 0 4;"));
        due(4, warmed("bore 0 0 4;bore 0 0 4;bore 9 0 4;"));
        due(4, warmed("aunt 0 5 0;"));
        due(9, warmed("aunt 0 6 8;"));
        due(9, warmed("aunt 0 6 9;"));
        due(2, warmed("enemy 0 4 5;"));
        due(0, warmed("enemy 0 0 5;"));
        due(1, warmed("enemy 0 6 2;"));
        due(0, warmed("enemy 0 6 0;"));
        due(5, warmed("enemy 0 6 5;friend 0 0 4;aunt 0 0 4;"));
        due(8, warmed("enemy 0 6 9;friend 0 0 4;aunt 0 0 4;"));
        due(8, warmed("enemy 0 0 9;friend 0 0 4;aunt 0 0 4;"));
        due(3, warmed("enemy 0 4 5;friend 0 0 4;aunt 0 6 4;"));
        // who goes to none, or elsewhere, does not warm
        due(4, warmed("friend 9 0 4;"));
        UnaskedGuests x = told("friend 1 0 9;house 0;house;");
        x.fancy(0, 0, 1);
        x.evenings(1);
        due(1, x.likes(0, 0));
        // dinner that begins ends the warming, also for those who are welcome
        UnaskedGuests y = told("house 0;friend 0 0 3;bore 0 2 3;");
        y.evenings(1);
        due(5, y.likes(0, 0));
        due(3, y.likes(0, 1));
    }

    private static void runs() {
        begin(14);
        UnaskedGuests x = told(COUNTY);
        int[][] want = {{0, 0, NONE, 51}, {2, 12, 1, 52}, {4, 22, 1, 53}};
        for (int n = 0; n < 3; n++) {
            for (int what = 0; what < 4; what++) {
                due(want[n][what], x.runs(n, what));
            }
        }
        due(0, x.rule(2));
        due(4, x.likes(0, 0));
        due(BAD, x.runs(-1, 0));
        due(BAD, x.runs(61, 0));
        due(BAD, x.runs(0, -1));
        due(BAD, x.runs(0, 4));
        // dinner begins each evening by the second; liked more, he begins none
        UnaskedGuests y = told("house 0;friend 0 0 0;friend 0 5 4;");
        due(NONE, y.runs(60, 2));
        y.alter(0, 1, 9);
        y.fancy(0, 1, 5);
        due(1, y.runs(60, 2));
        UnaskedGuests z = told("house;house 1;bore 0 0 4;enemy 1 0 9;enemy 1 6 9;");
        due(0 + 7, z.runs(1, 1));
        due(1, z.runs(6, 2));
        due(NONE, z.runs(0, 2));
        // EVENING's limit does not bind what would be
        for (int i = 0; i < 33; i++) {
            y.evenings(30);
        }
        due(60 * 7, y.runs(60, 1));
    }

    private static void ahead() {
        begin(15);
        UnaskedGuests x = told(COUNTY);
        due(4, x.ahead(0, 0, 0));
        due(7, x.ahead(0, 0, 1));
        due(8, x.ahead(0, 0, 2));
        due(4, x.ahead(0, 1, 1));
        due(4, x.ahead(1, 0, 60));
        due(4, x.likes(0, 0));
        due(BAD, x.ahead(3, 0, 0));
        due(BAD, x.ahead(0, 4, 0));
        due(BAD, x.ahead(0, 0, -1));
        due(BAD, x.ahead(0, 0, 61));
    }

    private static void begins() {
        begin(16);
        UnaskedGuests x = told(COUNTY);
        due(3, x.begins(0, 0));
        due(1, x.begins(0, 1));
        due(1, x.begins(0, 60));
        due(2, x.begins(1, 0));
        due(NONE, x.begins(2, 0));
        due(BAD, x.begins(3, 0));
        due(BAD, x.begins(-1, 0));
        due(BAD, x.begins(0, -1));
        due(BAD, x.begins(0, 61));
        due(0, x.rule(2));
    }

    private static void send() {
        begin(17);
        UnaskedGuests x = told(COUNTY);
        due(2, x.send(0, 0));
        due(3, x.send(0, 1));
        // as a third at house 0 he would keep the enemy liked there
        due(1, x.send(3, 0));
        due(2, x.send(3, 1));
        due(0, x.comer(0, 1));
        due(BAD, x.send(4, 0));
        due(BAD, x.send(-1, 0));
        due(BAD, x.send(0, 2));
        due(BAD, x.send(0, -1));
        // best at home: with three there the enemies would stay liked
        UnaskedGuests y = told("house 2;enemy 0 0 9;enemy 0 0 9;friend 0 0 9;");
        due(9, y.send(2, 0));
        due(1, y.send(2, 1));
        UnaskedGuests z = told("bore 9 0 0;");
        due(9, z.send(0, 0));
        due(0, z.send(0, 1));
    }

    private static void swap() {
        begin(18);
        UnaskedGuests x = told("house;house;friend 0 0 9;friend 1 0 9;");
        due(NONE, x.swap(0));
        due(NONE, x.swap(1));
        x.fancy(1, 0, 0);
        due(1, x.swap(0));
        due(1, x.swap(1));
        x.fancy(0, 1, 0);
        due(1, x.swap(0));
        due(2, x.swap(1));
        due(0, x.comer(0, 1));
        due(BAD, x.swap(-1));
        due(BAD, x.swap(2));
        // two dinners by each of 0, 1 with each of 2, 3: the least is told
        UnaskedGuests y = told("house;house;friend 0 0 9;friend 0 0 9;friend 1 0 9;friend 1 0 9;");
        y.fancy(1, 0, 4);
        y.fancy(1, 1, 4);
        y.fancy(0, 2, 4);
        y.fancy(0, 3, 4);
        due(2, y.swap(0));
        y.fancy(1, 0, 9);
        due(12, y.swap(0));
        due(2, y.swap(1));
        // more than as it is TONIGHT: one dinner begins already, by a swap two
        UnaskedGuests w = told("house;house;house;friend 0 0 9;friend 1 0 9;bore 2 0 0;");
        w.fancy(1, 0, 0);
        due(1, w.swap(0));
        due(2, w.swap(1));
        // with one who goes to none
        UnaskedGuests z = told("house;friend 0 0 9;friend 9 0 0;");
        due(1, z.swap(0));
        due(1, z.swap(1));
        due(NONE, new UnaskedGuests().swap(0));
    }

    private static void strike() {
        begin(19);
        UnaskedGuests x = told("house 0;friend 0 0 4;");
        due(0, x.strike(0));
        due(1, x.strike(1));
        due(1, x.house(0, 0));
        x.fancy(0, 0, 5);
        due(NONE, x.strike(0));
        due(NONE, x.strike(1));
        due(BAD, x.strike(-1));
        due(BAD, x.strike(2));
        UnaskedGuests y = told("house 1;house 0 1;friend 1 0 9;friend 1 0 3;");
        due(11, y.strike(0));
        due(1, y.strike(1));
        UnaskedGuests w = told("house;house 1;bore 0 0 0;bore 1 0 0;");
        due(11, w.strike(0));
        due(2, w.strike(1));
        // no more than as it is: dinner begins already
        UnaskedGuests z = told("house 0;friend 0 0 4;bore 0 6 4;");
        due(NONE, z.strike(0));
    }

    private static void late() {
        begin(20);
        UnaskedGuests x = told(COUNTY);
        due(4, x.late(1));
        due(6, x.late(2));
        due(1, x.comer(1, 2));
        due(BAD, x.late(4));
        due(BAD, x.late(-1));
        x.alter(1, 1, 9);
        due(STATE, x.late(1));
        // that dinner begins is enough, by whomever
        UnaskedGuests y = told("house 0;friend 0 0 4;bore 0 3 4;");
        due(6, y.late(0));
        due(6, y.late(1));
        y.fancy(0, 1, 5);
        due(NONE, y.late(1));
        due(5, told("house;enemy 0 0 9;").begins(0, 0));
        due(1, told("house;enemy 0 0 9;").late(0));
        due(0, told("house 1 2;enemy 0 6 8;friend 0 0 5;friend 0 4 5;").late(0));
    }

    private static void most() {
        begin(21);
        due(4, told("house;friend 0 0 9;").most(0, 0));
        due(9, told("house;enemy 0 0 0;").most(0, 0));
        due(7, told("house;enemy 0 3 0;").most(0, 0));
        due(4, told("house;enemy 0 6 0;").most(0, 0));
        due(NONE, told("house 0;enemy 0 0 0;").most(0, 0));
        due(NONE, told("house;enemy 9 0 0;").most(0, 0));
        UnaskedGuests x = told(COUNTY);
        due(9, x.most(0, 1));
        due(9, x.most(1, 3));
        due(NONE, x.most(2, 0));
        due(6, x.likes(0, 1));
        due(BAD, x.most(3, 0));
        due(BAD, x.most(-1, 0));
        due(BAD, x.most(0, 4));
        due(BAD, x.most(0, -1));
    }

    private static void kind() {
        begin(22);
        UnaskedGuests x = told("house;friend 0 6 6;");
        due(0, x.kind(0, 0, 0));
        due(0, x.kind(0, 0, 1));
        // an enemy is liked 1 less an evening: 6, 5, then 4 and dinner begins
        due(0, x.kind(0, 2, 0));
        due(0, x.kind(0, 2, 1));
        due(3, x.kind(0, 3, 0));
        due(1, x.kind(0, 3, 1));
        due(3, x.kind(0, 60, 0));
        due(58, x.kind(0, 60, 1));
        due(0, x.comer(0, 0));
        due(6, x.likes(0, 0));
        due(BAD, x.kind(1, 0, 0));
        due(BAD, x.kind(-1, 0, 0));
        due(BAD, x.kind(0, 61, 0));
        due(BAD, x.kind(0, -1, 0));
        due(BAD, x.kind(0, 0, 2));
        due(BAD, x.kind(0, 0, -1));
    }

    private static void pair() {
        begin(23);
        UnaskedGuests x = told(COUNTY);
        due(3, x.pair(0, 2, 0));
        due(2, x.pair(0, 2, 1));
        due(1, x.pair(0, 2, 2));
        due(3, x.pair(2, 0, 0));
        due(1, x.pair(2, 0, 1));
        due(2, x.pair(2, 0, 2));
        due(0, x.comer(0, 1));
        due(BAD, x.pair(0, 0, 0));
        due(BAD, x.pair(4, 0, 0));
        due(BAD, x.pair(0, 4, 0));
        due(BAD, x.pair(-1, 0, 0));
        due(BAD, x.pair(0, -1, 0));
        due(BAD, x.pair(0, 1, 3));
        due(BAD, x.pair(0, 1, -1));
        UnaskedGuests y = told("house 1 2;enemy 9 0 9;friend 0 0 9;friend 0 0 9;");
        due(1, y.pair(0, 1, 0));
        due(0, y.pair(0, 1, 1));
        due(9, y.pair(0, 1, 2));
        due(9, y.pair(1, 0, 1));
        UnaskedGuests z = told("bore 9 0 0;bore 9 0 0;");
        due(0, z.pair(0, 1, 0));
        due(9, z.pair(0, 1, 1));
        due(9, z.pair(0, 1, 2));
    }

    private static void fraction(long above, long below, long gotAbove, long gotBelow) {
        Checks.fraction(above, below, gotAbove, gotBelow);
    }

    private static void luck() {
        begin(24);
        UnaskedGuests one = told("house;friend 0 0 4;bore 9 0 0;");
        fraction(7, 10, one.luck(3, 0, 0), one.luck(3, 0, 1));
        fraction(1, 1, one.luck(0, 0, 0), one.luck(0, 0, 1));
        fraction(0, 1, one.luck(10, 0, 0), one.luck(10, 0, 1));
        UnaskedGuests two = told("house;friend 0 0 4;bore 0 6 0;");
        fraction(3, 4, two.luck(5, 0, 0), two.luck(5, 0, 1));
        fraction(24, 25, two.luck(2, 0, 0), two.luck(2, 0, 1));
        // by the enemy (0), unless both others come as well
        UnaskedGuests three = told("house 1 2;enemy 0 0 9;friend 0 0 9;friend 0 0 9;");
        fraction(3, 8, three.luck(5, 0, 0), three.luck(5, 0, 1));
        fraction(0, 1, three.luck(0, 0, 0), three.luck(0, 0, 1));
        fraction(9 * 19, 1000, three.luck(1, 0, 0), three.luck(1, 0, 1));
        due(9, three.likes(0, 0));
        due(BAD, three.luck(-1, 0, 0));
        due(BAD, three.luck(11, 0, 0));
        due(BAD, three.luck(0, 1, 0));
        due(BAD, three.luck(0, -1, 0));
        due(BAD, three.luck(0, 0, 2));
        due(BAD, three.luck(0, 0, -1));
    }

    private static void mean() {
        begin(25);
        UnaskedGuests x = told("house;house;house;friend 0 0 4;bore 1 6 4;aunt 9 0 0;");
        fraction(1, 1, x.mean(5, 0), x.mean(5, 1));
        fraction(7, 5, x.mean(3, 0), x.mean(3, 1));
        fraction(2, 1, x.mean(0, 0), x.mean(0, 1));
        fraction(0, 1, x.mean(10, 0), x.mean(10, 1));
        due(BAD, x.mean(-1, 0));
        due(BAD, x.mean(11, 0));
        due(BAD, x.mean(0, 2));
        due(BAD, x.mean(0, -1));
        UnaskedGuests nobody = new UnaskedGuests();
        fraction(0, 1, nobody.mean(5, 0), nobody.mean(5, 1));
    }

    private static void see() {
        begin(26);
        UnaskedGuests x = told(COUNTY);
        due(BAD, x.see(-1, 0, 0));
        due(BAD, x.see(10, 0, 0));
        due(BAD, x.see(0, 3, 0));
        due(BAD, x.see(0, -1, 0));
        due(BAD, x.see(0, 0, 8));
        due(BAD, x.see(0, 0, -1));
        due(1, x.see(9, 2, 7));
        for (int i = 2; i <= 6; i++) {
            due(i, x.see(0, 0, 3));
        }
        due(FULL, x.see(0, 0, 3));
        due(BAD, x.see(0, 0, 8));
        due(6, x.count(0));
    }

    private static void forget() {
        begin(27);
        UnaskedGuests x = told(COUNTY);
        due(0, x.forget(0));
        due(BAD, x.forget(1));
        x.see(0, 0, 3);
        x.see(0, 0, 4);
        due(0, x.kinds(1));
        due(BAD, x.forget(-1));
        due(BAD, x.forget(3));
        due(2, x.forget(1));
        due(8, x.kinds(1));
        due(1, x.count(0));
        due(1, x.forget(0));
        due(15, x.kinds(1));
    }

    private static void kinds() {
        begin(28);
        UnaskedGuests x = told(COUNTY);
        due(15, x.kinds(1));
        x.see(0, 0, 3);
        due(15, x.kinds(0));
        due(8, x.kinds(1));
        x.see(9, 1, 2);
        due(8, x.kinds(1));
        due(3, x.comer(1, 0));
        due(BAD, x.kinds(4));
        due(BAD, x.kinds(-1));
        // only an enemy is liked 1 less an evening, until he is unwelcome behind two
        UnaskedGuests y = told("house;friend 0 6 6;");
        y.see(0, 0, 7);
        due(15, y.kinds(0));
        y.see(2, 0, 6);
        due(8, y.kinds(0));
        y.see(1, 0, 6);
        due(0, y.kinds(0));
    }

    private static void levels() {
        begin(29);
        UnaskedGuests x = told(COUNTY);
        due(1023, x.levels(0, 1));
        x.see(0, 0, 3);
        due(64, x.levels(0, 1));
        due(1023, x.levels(1, 1));
        due(6, x.likes(0, 1));
        due(BAD, x.levels(3, 0));
        due(BAD, x.levels(-1, 0));
        due(BAD, x.levels(0, 4));
        due(BAD, x.levels(0, -1));
        UnaskedGuests y = told("house;friend 0 0 4;");
        y.see(0, 0, 0);
        due(31, y.levels(0, 0));
        y.forget(0);
        y.see(9, 0, 7);
        due(1023 - 31, y.levels(0, 0));
    }

    private static void ask() {
        begin(30);
        UnaskedGuests x = told("house;house;friend 1 0 6;");
        due(1, x.ask(0, 0));
        due(3, x.ask(0, 1));
        x.see(0, 1, 7);
        due(7, x.kinds(0));
        due(NONE, x.ask(0, 0));
        due(NONE, x.ask(0, 1));
        x.see(0, 1, 0);
        due(0, x.kinds(0));
        due(NONE, x.ask(0, 0));
        due(NONE, told("house;friend 0 0 4;").ask(0, 0));
        due(BAD, x.ask(1, 0));
        due(BAD, x.ask(-1, 0));
        due(BAD, x.ask(0, 2));
        due(BAD, x.ask(0, -1));
        // only an enemy ever begins dinner here, behind two evenings
        UnaskedGuests y = told("house;friend 0 6 6;");
        due(20, y.ask(0, 0));
        due(3, y.ask(0, 1));
        due(6, y.likes(0, 0));
        due(0, y.comer(0, 0));
    }

    private static void drift() {
        begin(31);
        UnaskedGuests x = told(COUNTY);
        due(20, x.drift(7, 9, 0));
        due(101, x.drift(7, 9, 1));
        due(0, x.comer(0, 1));
        due(0, x.rule(2));
        due(51, x.count(5));
        due(BAD, x.drift(7, 0, 0));
        due(BAD, x.drift(7, 61, 0));
        due(BAD, x.drift(7, 1, 2));
        due(BAD, x.drift(7, 1, -1));
        due(0, told("house 0;bore 0 0 0;").drift(7, 60, 0));
        due(60 * 7, told("house 0;bore 0 0 0;").drift(7, 60, 1));
        UnaskedGuests nobody = told("house;");
        due(STATE, nobody.drift(7, 1, 0));
        due(BAD, nobody.drift(7, 0, 0));
        due(STATE, told("bore 9 0 0;").drift(7, 1, 0));
        // seed 1 becomes 1103527590: got is 16838; he comes at 526 modulo 7, which is 1
        UnaskedGuests y = told("house;bore 9 0 4;");
        due(1, y.drift(1, 1, 0));
        due(1, y.drift(1, 1, 1));
    }

    private static void keep() {
        begin(32);
        UnaskedGuests x = told(COUNTY);
        due(0, x.keep(0));
        due(1, x.keep(0));
        due(0, x.keep(1));
        due(BAD, x.keep(2));
        due(BAD, x.keep(-1));
        due(2, x.count(1));
    }

    private static void back() {
        begin(33);
        UnaskedGuests x = told(COUNTY);
        due(STATE, x.back(0));
        due(BAD, x.back(2));
        due(BAD, x.back(-1));
        x.evenings(2);
        x.see(0, 0, 1);
        x.keep(0);
        due(STATE, x.back(1));
        x.evenings(1);
        x.alter(0, 0, 3);
        x.alter(0, 1, 9);
        x.alter(0, 2, 6);
        x.fancy(2, 3, 0);
        x.invite(1, 1, true);
        x.forget(0);
        x.keep(1);
        due(2, x.back(0));
        due(2, x.rule(2));
        due(0, x.comer(0, 0));
        due(0, x.comer(0, 1));
        due(0, x.comer(0, 2));
        due(5, x.likes(2, 3));
        due(0, x.house(1, 0));
        due(1, x.count(0));
        due(2, x.back(0));
        due(3, x.back(1));
        due(0, x.count(0));
        due(0, x.likes(2, 3));
        due(2, x.house(1, 0));
        due(NONE, x.comer(0, 1));
        // what was seen comes back as it was
        UnaskedGuests y = told("house;house;friend 1 6 6;");
        y.see(2, 1, 6);
        y.keep(0);
        y.forget(0);
        y.see(0, 0, 7);
        due(15, y.kinds(0));
        y.back(0);
        due(8, y.kinds(0));
    }

    private static void sheet() {
        begin(34);
        UnaskedGuests x = new UnaskedGuests();
        due(BAD, x.sheet(-1, 0, 1));
        due(BAD, x.sheet(4, 0, 1));
        due(BAD, x.sheet(0, -1, 1));
        due(BAD, x.sheet(0, 3, 1));
        due(BAD, x.sheet(0, 0, 41));
        due(BAD, x.sheet(4, 0, -1));
        due(BAD, x.sheet(0, 3, -1));
        due(NONE, x.count(3));
        due(-14, x.sheet(0, 0, -1));
        due(-14, x.sheet(0, 0, Integer.MIN_VALUE));
        due(NONE, x.count(3));
        due(1, x.sheet(0, 0, 0));
        due(0, x.count(3));
        due(1, x.sheet(0, 2, 40));
        due(40, x.count(3));
        due(-14, x.sheet(0, 0, -1));
        due(40, x.count(3));
        due(1, x.sheet(3, 1, 2));
        // a new row is of zeros
        UnaskedGuests y = told("house;bore 9 0 0;");
        y.sheet(1, 0, 2);
        y.lay(1, 1, 9);
        y.sheet(1, 0, 2);
        due(1, y.read(1, 0, 0, 1));
        due(0, y.comer(0, 1));
        y.lay(1, 0, 5);
        y.sheet(1, 0, 2);
        due(1, y.read(1, 0, 0, 1));
    }

    private static void lay() {
        begin(35);
        UnaskedGuests x = told("house;house;bore 9 0 0;");
        due(BAD, x.lay(-1, 0, 0));
        due(BAD, x.lay(4, 0, 0));
        due(-11, x.lay(0, 0, 0));
        due(-11, x.lay(0, -1, 0));
        x.sheet(0, 0, 2);
        due(-12, x.lay(0, 2, 0));
        due(-12, x.lay(0, -1, 0));
        due(1, x.lay(0, 0, 256));
        due(1, x.lay(0, 1, 257));
        due(1, x.read(0, 0, 0, 1));
        due(1, x.comer(0, 1));
        due(1, x.lay(0, 1, 128 + 9));
        due(-20, x.read(0, 0, 0, 1));
        x.sheet(1, 1, 2);
        x.lay(1, 1, 256);
        due(-20, x.read(1, 1, 0, 1));
        x.lay(1, 1, 65536 + 9);
        due(1, x.read(1, 1, 0, 1));
        due(NONE, x.comer(0, 1));
        x.sheet(2, 2, 2);
        x.lay(2, 1, 65536);
        due(-20, x.read(2, 2, 0, 1));
        due(1, x.lay(2, 1, 1));
        due(1, x.read(2, 2, 0, 1));
        due(1, x.comer(0, 1));
        x.sheet(3, 0, 0);
        due(-12, x.lay(3, 0, 0));
    }

    private static void layRow(UnaskedGuests x, int k, int... cells) {
        Checks.layRow(x, k, 0, cells);
    }

    private static void read() {
        begin(36);
        UnaskedGuests x = told(COUNTY);
        layRow(x, 0, 0, 2, 1, 9, 0, 1, 3);
        due(BAD, x.read(-1, 0, 0, 1));
        due(BAD, x.read(4, 0, 0, 1));
        due(BAD, x.read(0, -1, 0, 1));
        due(BAD, x.read(0, 3, 0, 1));
        due(BAD, x.read(0, 0, 0, -1));
        due(BAD, x.read(0, 0, 0, 21));
        due(0, x.read(0, 0, 0, 0));
        due(0, x.comer(0, 1));
        due(2, x.read(0, 0, 0, 2));
        due(2, x.comer(0, 1));
        due(NONE, x.comer(1, 1));
        due(3, x.read(0, 0, 0, 20));
        due(1, x.comer(0, 1));
        due(1, x.comer(3, 1));
        // from another cell on: 2 goes to 1; 9 is no comer
        due(1, x.read(0, 0, 1, 1));
        due(-21, x.read(0, 0, 1, 2));
        due(0, x.read(0, 0, -1, 1));
        due(0, x.read(0, 0, 7, 1));
        due(0, x.read(0, 0, 6, 1));
        due(0, x.read(0, 0, Integer.MAX_VALUE, 1));
        due(0, x.read(0, 0, Integer.MIN_VALUE, 20));
        due(0, x.read(0, 1, 0, 1));
        due(0, x.read(2, 0, 0, 1));
        due(0, x.read(3, 0, 0, 1));
        // refused by alter(): none came; a comer, a house that there is not
        layRow(x, 1, 3, 0, 3, 2, 3, 3, 4, 0);
        due(-22, x.read(1, 0, 0, 4));
        due(1, x.comer(3, 1));
        due(-20, x.read(1, 0, 6, 1));
        due(2, x.read(1, 0, 0, 2));
        due(2, x.comer(3, 1));
        layRow(x, 1, -1, 0);
        due(-20, x.read(1, 0, 0, 1));
    }

    private static void torn() {
        begin(37);
        UnaskedGuests x = told(COUNTY);
        due(0, x.torn());
        due(0, x.read(0, 0, 0, 1));
        due(1, x.torn());
        layRow(x, 0, 0, 2, 1);
        due(1, x.torn());
        due(1, x.read(0, 0, 0, 2));
        due(2, x.torn());
        due(0, x.read(0, 2, 0, 1));
        due(3, x.torn());
        // what was refused leaves it
        due(BAD, x.read(0, 0, 0, 21));
        due(3, x.torn());
        due(1, x.read(0, 0, 1, 1));
        due(0, x.torn());
        due(0, x.read(0, 0, -1, 1));
        due(2, x.torn());
        layRow(x, 0, 9, 0);
        due(-20, x.read(0, 0, 0, 1));
        due(2, x.torn());
        due(0, x.read(0, 0, 0, 0));
        due(0, x.torn());
        // another lane is found ahead of an index
        due(0, x.read(0, 1, 99, 1));
        due(3, x.torn());
    }

    private static void count() {
        begin(38);
        UnaskedGuests x = told(COUNTY);
        due(0, x.count(0));
        x.see(0, 0, 0);
        due(1, x.count(0));
        due(0, x.count(1));
        x.keep(1);
        due(1, x.count(1));
        x.feed(1);
        due(1, x.count(2));
        due(NONE, x.count(3));
        x.sheet(1, 0, 5);
        due(NONE, x.count(3));
        x.sheet(0, 0, 7);
        due(7, x.count(3));
        due(4, x.count(4));
        x.alter(2, 1, 9);
        due(3, x.count(4));
        due(51, x.count(5));
        due(BAD, x.count(-1));
        due(BAD, x.count(6));
    }
}
