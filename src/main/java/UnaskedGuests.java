/**
 * A county where no dinner may begin until somebody is at it who was not asked and is not liked.
 * The promises are numbered in the project's document; every call answers a number and none throws.
 */
public final class UnaskedGuests {
    public static final int BAD = -1, STATE = -2, FULL = -3, NONE = -4;

    private static final int MOST_HOUSES = 4;
    private static final int MOST_COMERS = 6;
    private static final int EVERYBODY = (1 << MOST_COMERS) - 1;
    private static final int KINDS = 4;
    private static final int FRIEND = 0, BORE = 1, AUNT = 2, ENEMY = 3;
    private static final int LAST_HOUR = 6;
    /** Told in place of an hour; it is also how many hours are waited then. */
    private static final int FASTING = 7;
    private static final int NOWHERE = 9;
    private static final int MOST_LIKED = 9;
    private static final int MOST_UNWELCOME = 4;
    private static final int COMPANY_FOR_A_BORE = 3;

    private static final int TAPE_BYTES = 160;
    private static final int MOST_SEEN = 6;
    /** Dinners are seen, and asked for, behind 0 to 9 evenings. */
    private static final int SEEN_SPAN = 10;
    private static final int MOST_EVENINGS = 30;
    private static final int MOST_AHEAD = 60;
    private static final int EVENING_LIMIT = 1000;
    private static final int IMAGES = 2;
    private static final int SHEETS = 4;
    private static final int MOST_CELLS = 40;
    private static final int MOST_ERRANDS = 20;

    private static final int FAULT_BASE = -10;
    private static final int ERRAND_BASE = -20;
    private static final int NULL_FAULT = 1, INDEX_FAULT = 2, CAST_FAULT = 3, SIZE_FAULT = 4;

    private final Tape tape = new Tape();
    private final TextReader reader = new TextReader(tape);
    private final County now = new County();
    private final Sightings seen = new Sightings();
    private final Trial trial = new Trial(now);
    private final Advice advice = new Advice(now, trial);
    private final Odds odds = new Odds(now, trial);
    private final Guess guess = new Guess(now, seen, trial);
    private final Image[] images = new Image[IMAGES];
    private final Sheet[] sheets = new Sheet[SHEETS];
    private int tornFault = 0;

    public UnaskedGuests() {
        for (int k = 0; k < IMAGES; k++) {
            images[k] = new Image();
        }
        for (int k = 0; k < SHEETS; k++) {
            sheets[k] = new Sheet();
        }
    }

    // ---- the text

    public int feed(int c) {
        if (outside(c, 127)) {
            return BAD;
        }
        return tape.put(c) ? tape.length : FULL;
    }

    public int end(int n) {
        if (outside(n, tape.length)) {
            return BAD;
        }
        int had = tape.length;
        tape.length = n;
        return had;
    }

    public int text() {
        int answer = reader.readAll();
        tape.length = 0;
        if (answer >= 0) {
            now.copyFrom(reader.draft);
            seen.size = 0;
            for (int k = 0; k < IMAGES; k++) {
                images[k].kept = false;
            }
        }
        return answer;
    }

    public int fault() {
        return reader.fault;
    }

    public int rule(int what) {
        switch (what) {
            case 0:
                return now.houses;
            case 1:
                return now.comers;
            case 2:
                return now.evening;
            case 3:
                return trial.tonight().begun;
            case 4:
                return trial.tonight().waited;
            case 5:
                return now.invitations();
            default:
                return BAD;
        }
    }

    public int house(int h, int what) {
        if (noHouse(h)) {
            return BAD;
        }
        switch (what) {
            case 0:
                return now.lists[h];
            case 1:
                return now.goers(h);
            case 2:
                return hourOrNone(trial.tonight().hours[h]);
            case 3:
                return trial.tonight().openers[h];
            case 4:
                return now.unwelcome(h);
            default:
                return BAD;
        }
    }

    public int comer(int c, int what) {
        if (noComer(c)) {
            return BAD;
        }
        switch (what) {
            case 0:
                return now.kindOf[c];
            case 1:
                return houseOrNone(now.goes[c]);
            case 2:
                return now.comes[c];
            case 3:
                return now.listsWith(c);
            case 4:
                return now.likingsOf(c);
            default:
                return BAD;
        }
    }

    public int likes(int h, int c) {
        return noHouse(h) || noComer(c) ? BAD : now.liked(h, c);
    }

    // ---- what is changed

    public int alter(int c, int what, int v) {
        if (noComer(c)) {
            return BAD;
        }
        switch (what) {
            case 0:
                return outside(v, KINDS - 1) ? BAD : exchange(now.kindOf, c, v);
            case 1:
                return now.noDestination(v) ? BAD : houseOrNone(exchange(now.goes, c, v));
            case 2:
                return outside(v, LAST_HOUR) ? BAD : exchange(now.comes, c, v);
            default:
                return BAD;
        }
    }

    public int fancy(int h, int c, int v) {
        if (noHouse(h) || noComer(c) || outside(v, MOST_LIKED)) {
            return BAD;
        }
        int was = now.liked(h, c);
        now.setLiked(h, c, v);
        return was;
    }

    public int invite(int h, int c, boolean is) {
        if (noHouse(h) || noComer(c)) {
            return BAD;
        }
        int was = now.onList(h, c) ? 1 : 0;
        now.setOnList(h, c, is);
        return was;
    }

    // ---- evenings

    public int evenings(int n) {
        if (outside(n, MOST_EVENINGS)) {
            return BAD;
        }
        if (now.evening + n >= EVENING_LIMIT) {
            return FULL;
        }
        trial.restart();
        int dinners = trial.dinnersIn(n);
        now.copyFrom(trial.county);
        return dinners;
    }

    public int runs(int n, int what) {
        if (outside(n, MOST_AHEAD) || outside(what, 3)) {
            return BAD;
        }
        trial.restart();
        int dinners = trial.dinnersIn(n);
        switch (what) {
            case 0:
                return dinners;
            case 1:
                return trial.waited;
            case 2:
                return trial.firstFast;
            default:
                return trial.county.likings();
        }
    }

    public int ahead(int h, int c, int n) {
        if (noHouse(h) || noComer(c) || outside(n, MOST_AHEAD)) {
            return BAD;
        }
        trial.restart();
        trial.dinnersIn(n);
        return trial.county.liked(h, c);
    }

    public int begins(int h, int n) {
        if (noHouse(h) || outside(n, MOST_AHEAD)) {
            return BAD;
        }
        trial.restart();
        trial.dinnersIn(n + 1);
        return hourOrNone(trial.evening.hours[h]);
    }

    // ---- what is best

    public int send(int c, int what) {
        if (noComer(c) || outside(what, 1)) {
            return BAD;
        }
        advice.sendOne(c);
        return advice.planOrDinners(what);
    }

    public int swap(int what) {
        if (outside(what, 1)) {
            return BAD;
        }
        advice.swapTwo();
        return advice.planOrDinners(what);
    }

    public int strike(int what) {
        if (outside(what, 1)) {
            return BAD;
        }
        advice.strikeOne();
        return advice.planOrDinners(what);
    }

    public int late(int c) {
        if (noComer(c)) {
            return BAD;
        }
        return now.goes[c] == NOWHERE ? STATE : advice.latestHour(c);
    }

    public int most(int h, int c) {
        return noHouse(h) || noComer(c) ? BAD : advice.mostLiked(h, c);
    }

    public int kind(int c, int n, int what) {
        if (noComer(c) || outside(n, MOST_AHEAD) || outside(what, 1)) {
            return BAD;
        }
        advice.bestKind(c, n);
        return advice.planOrDinners(what);
    }

    public int pair(int c, int d, int what) {
        if (noComer(c) || noComer(d) || c == d || outside(what, 2)) {
            return BAD;
        }
        advice.sendTwo(c, d);
        if (what == 0) {
            return advice.dinners;
        }
        return what == 1 ? advice.plan / 10 : advice.plan % 10;
    }

    // ---- comers who stay at home

    public long luck(int v, int h, int what) {
        if (outside(v, 10) || noHouse(h) || outside(what, 1)) {
            return BAD;
        }
        return partOfFraction(odds.ofDinner(v, h), odds.ofAll(), what);
    }

    public long mean(int v, int what) {
        if (outside(v, 10) || outside(what, 1)) {
            return BAD;
        }
        long sum = 0;
        for (int h = 0; h < now.houses; h++) {
            sum += odds.ofDinner(v, h);
        }
        return partOfFraction(sum, odds.ofAll(), what);
    }

    // ---- from when dinners began

    public int see(int n, int h, int t) {
        if (outside(n, SEEN_SPAN - 1) || noHouse(h) || outside(t, FASTING)) {
            return BAD;
        }
        return seen.add(n, h, t) ? seen.size : FULL;
    }

    public int forget(int n) {
        if (outside(n, seen.size)) {
            return BAD;
        }
        int had = seen.size;
        seen.size = n;
        return had;
    }

    public int kinds(int c) {
        return noComer(c) ? BAD : guess.kindsLeft(c, seen.reach());
    }

    public int levels(int h, int c) {
        return noHouse(h) || noComer(c) ? BAD : guess.levelsLeft(h, c);
    }

    public int ask(int c, int what) {
        if (noComer(c) || outside(what, 1)) {
            return BAD;
        }
        guess.bestQuestion(guess.kindsLeft(c, SEEN_SPAN));
        if (what == 0 || guess.question == NONE) {
            return guess.question;
        }
        return guess.leftAtWorst;
    }

    // ---- by a seed

    public int drift(int seed, int n, int what) {
        if (n < 1 || n > MOST_AHEAD || outside(what, 1)) {
            return BAD;
        }
        if (now.houses == 0 || now.comers == 0) {
            return STATE;
        }
        trial.restart();
        int dinners = trial.driftBy(seed, n);
        return what == 0 ? dinners : trial.waited;
    }

    // ---- images, sheets

    public int keep(int k) {
        if (outside(k, IMAGES - 1)) {
            return BAD;
        }
        Image image = images[k];
        int was = image.kept ? 1 : 0;
        image.county.copyFrom(now);
        image.seen.copyFrom(seen);
        image.kept = true;
        return was;
    }

    public int back(int k) {
        if (outside(k, IMAGES - 1)) {
            return BAD;
        }
        Image image = images[k];
        if (!image.kept) {
            return STATE;
        }
        now.copyFrom(image.county);
        seen.copyFrom(image.seen);
        return now.evening;
    }

    public int sheet(int k, int lane, int n) {
        if (outside(k, SHEETS - 1) || outside(lane, Sheet.INTS) || n > MOST_CELLS) {
            return BAD;
        }
        if (n < 0) {
            return FAULT_BASE - SIZE_FAULT;
        }
        sheets[k].renew(lane, n);
        return 1;
    }

    public int lay(int k, int i, int v) {
        if (outside(k, SHEETS - 1)) {
            return BAD;
        }
        int found = sheets[k].faultAt(sheets[k].lane, i);
        if (found != 0) {
            return FAULT_BASE - found;
        }
        sheets[k].put(i, v);
        return 1;
    }

    public int read(int k, int lane, int f, int n) {
        if (outside(k, SHEETS - 1) || outside(lane, Sheet.INTS) || outside(n, MOST_ERRANDS)) {
            return BAD;
        }
        Sheet from = sheets[k];
        // The errands are run on the trial, since one that is refused undoes those ahead of it.
        County sent = trial.restart();
        int came = 0;
        int found = 0;
        for (int i = 0; i < n && found == 0; i++) {
            int cell = f + 2 * i;
            found = from.faultOfTwo(lane, cell);
            if (found == 0) {
                int c = from.cells[cell];
                int h = from.cells[cell + 1];
                if (noComer(c) || now.noDestination(h)) {
                    return ERRAND_BASE - i;
                }
                sent.goes[c] = h;
                came++;
            }
        }
        now.copyFrom(sent);
        tornFault = found;
        return came;
    }

    public int torn() {
        return tornFault;
    }

    public int count(int what) {
        switch (what) {
            case 0:
                return seen.size;
            case 1:
                return imagesKept();
            case 2:
                return tape.length;
            case 3:
                return sheets[0].isNothing() ? NONE : sheets[0].size;
            case 4:
                return now.goersAnywhere();
            case 5:
                return now.likings();
            default:
                return BAD;
        }
    }

    // ---- what the calls share

    private boolean noHouse(int h) {
        return h < 0 || h >= now.houses;
    }

    private boolean noComer(int c) {
        return c < 0 || c >= now.comers;
    }

    private int imagesKept() {
        int kept = 0;
        for (int k = 0; k < IMAGES; k++) {
            if (images[k].kept) {
                kept++;
            }
        }
        return kept;
    }

    private static boolean outside(int v, int highest) {
        return v < 0 || v > highest;
    }

    private static int hourOrNone(int hour) {
        return hour == FASTING ? NONE : hour;
    }

    private static int houseOrNone(int house) {
        return house == NOWHERE ? NONE : house;
    }

    private static int exchange(int[] row, int i, int v) {
        int was = row[i];
        row[i] = v;
        return was;
    }

    private static long partOfFraction(long above, long below, int what) {
        long divisor = greatestDivisor(above, below);
        if (divisor == 0) {
            return 0;
        }
        return (what == 0 ? above : below) / divisor;
    }

    private static long greatestDivisor(long a, long b) {
        long greater = a;
        long lesser = b;
        // Euclid's steps over longs are far fewer than 200.
        for (int step = 0; step < 200 && lesser != 0; step++) {
            long rest = greater % lesser;
            greater = lesser;
            lesser = rest;
        }
        return greater;
    }

    /** The houses with their lists, and the comers: all that an evening needs and changes. */
    private static final class County {
        int houses = 0;
        int comers = 0;
        int evening = 0;
        final int[] lists = new int[MOST_HOUSES];
        final int[] kindOf = new int[MOST_COMERS];
        final int[] goes = new int[MOST_COMERS];
        final int[] comes = new int[MOST_COMERS];
        /** House by house, each comer's liking there. */
        final int[] likings = new int[MOST_HOUSES * MOST_COMERS];

        void clear() {
            houses = 0;
            comers = 0;
            evening = 0;
        }

        void copyFrom(County other) {
            houses = other.houses;
            comers = other.comers;
            evening = other.evening;
            System.arraycopy(other.lists, 0, lists, 0, MOST_HOUSES);
            System.arraycopy(other.kindOf, 0, kindOf, 0, MOST_COMERS);
            System.arraycopy(other.goes, 0, goes, 0, MOST_COMERS);
            System.arraycopy(other.comes, 0, comes, 0, MOST_COMERS);
            copyLikingsFrom(other);
        }

        void copyLikingsFrom(County other) {
            System.arraycopy(other.likings, 0, likings, 0, MOST_HOUSES * MOST_COMERS);
        }

        int liked(int h, int c) {
            return likings[h * MOST_COMERS + c];
        }

        void setLiked(int h, int c, int v) {
            likings[h * MOST_COMERS + c] = v;
        }

        boolean onList(int h, int c) {
            return (lists[h] >> c & 1) == 1;
        }

        void setOnList(int h, int c, boolean is) {
            lists[h] = is ? lists[h] | 1 << c : lists[h] & ~(1 << c);
        }

        boolean noDestination(int h) {
            return h != NOWHERE && (h < 0 || h >= houses);
        }

        /** The i-th of the places where one may go: the houses by order, then none. */
        int destination(int i) {
            return i < houses ? i : NOWHERE;
        }

        int goers(int h) {
            int bits = 0;
            for (int c = 0; c < comers; c++) {
                if (goes[c] == h) {
                    bits |= 1 << c;
                }
            }
            return bits;
        }

        int goersAnywhere() {
            return comers - Integer.bitCount(goers(NOWHERE));
        }

        int unwelcome(int h) {
            int bits = 0;
            for (int c = 0; c < comers; c++) {
                if (!onList(h, c) && liked(h, c) <= MOST_UNWELCOME) {
                    bits |= 1 << c;
                }
            }
            return bits;
        }

        int arrived(int guests, int hour) {
            int bits = 0;
            for (int c = 0; c < comers; c++) {
                if ((guests >> c & 1) == 1 && comes[c] <= hour) {
                    bits |= 1 << c;
                }
            }
            return bits;
        }

        void warm(int h, int there) {
            int company = Integer.bitCount(there);
            for (int c = 0; c < comers; c++) {
                if ((there >> c & 1) == 1) {
                    setLiked(h, c, warmed(kindOf[c], liked(h, c), company));
                }
            }
        }

        private static int warmed(int ofKind, int liked, int company) {
            int asFriend = liked < MOST_LIKED ? liked + 1 : MOST_LIKED;
            int asBore = company >= COMPANY_FOR_A_BORE ? asFriend : liked;
            switch (ofKind) {
                case FRIEND:
                    return asFriend;
                case BORE:
                    return asBore;
                case AUNT:
                    return asFriend < MOST_LIKED ? asFriend + 1 : MOST_LIKED;
                default:
                    return asBore > 0 ? asBore - 1 : 0;
            }
        }

        int invitations() {
            int sum = 0;
            for (int h = 0; h < houses; h++) {
                sum += Integer.bitCount(lists[h]);
            }
            return sum;
        }

        int listsWith(int c) {
            int sum = 0;
            for (int h = 0; h < houses; h++) {
                if (onList(h, c)) {
                    sum++;
                }
            }
            return sum;
        }

        int likingsOf(int c) {
            int sum = 0;
            for (int h = 0; h < houses; h++) {
                sum += liked(h, c);
            }
            return sum;
        }

        int likings() {
            int sum = 0;
            for (int c = 0; c < comers; c++) {
                sum += likingsOf(c);
            }
            return sum;
        }

        void addHouse() {
            lists[houses] = 0;
            houses++;
        }

        void addComer(int ofKind, int house, int hour, int liking) {
            kindOf[comers] = ofKind;
            goes[comers] = house;
            comes[comers] = hour;
            // Houses may be told behind the comer, so all that there could be like him.
            for (int h = 0; h < MOST_HOUSES; h++) {
                setLiked(h, comers, liking);
            }
            comers++;
        }

        boolean namesOnlyWhatThereIs() {
            for (int h = 0; h < houses; h++) {
                if (lists[h] >> comers != 0) {
                    return false;
                }
            }
            for (int c = 0; c < comers; c++) {
                if (noDestination(goes[c])) {
                    return false;
                }
            }
            return true;
        }
    }

    /** How one evening went, house by house. */
    private static final class Evening {
        final int[] hours = new int[MOST_HOUSES];
        final int[] openers = new int[MOST_HOUSES];
        int begun = 0;
        int waited = 0;

        void hold(County county) {
            begun = 0;
            waited = 0;
            for (int h = 0; h < county.houses; h++) {
                int hour = holdAt(county, h, EVERYBODY);
                waited += hour;
                if (hour != FASTING) {
                    begun |= 1 << h;
                }
            }
            county.evening++;
        }

        /** Only those of coming leave their homes. */
        int holdAt(County county, int h, int coming) {
            int guests = county.goers(h) & coming;
            hours[h] = FASTING;
            openers[h] = NONE;
            for (int hour = 0; hour <= LAST_HOUR && hours[h] == FASTING; hour++) {
                int there = county.arrived(guests, hour);
                int first = firstOf(there & county.unwelcome(h));
                if (first == NONE) {
                    county.warm(h, there);
                } else {
                    hours[h] = hour;
                    openers[h] = first;
                }
            }
            return hours[h];
        }

        private static int firstOf(int bits) {
            for (int c = 0; c < MOST_COMERS; c++) {
                if ((bits >> c & 1) == 1) {
                    return c;
                }
            }
            return NONE;
        }
    }

    /** A copy of the county on which evenings are tried. */
    private static final class Trial {
        final County now;
        final County county = new County();
        final Evening evening = new Evening();
        int evenings = 0;
        int waited = 0;
        /** Behind how many evenings a house was first fasting in the latest. */
        int firstFast = NONE;

        Trial(County now) {
            this.now = now;
        }

        County restart() {
            county.copyFrom(now);
            evenings = 0;
            waited = 0;
            firstFast = NONE;
            return county;
        }

        Evening tonight() {
            restart();
            evening.hold(county);
            return evening;
        }

        int dinnersIn(int n) {
            int dinners = 0;
            for (int i = 0; i < n; i++) {
                evening.hold(county);
                evenings++;
                waited += evening.waited;
                int begun = Integer.bitCount(evening.begun);
                if (begun < county.houses && firstFast == NONE) {
                    firstFast = evenings;
                }
                dinners += begun;
            }
            return dinners;
        }

        /** Asked only where there are houses and comers. */
        int driftBy(int seed, int n) {
            if (county.houses == 0 || county.comers == 0) {
                return 0;
            }
            int dinners = 0;
            int rolled = seed;
            for (int i = 0; i < n; i++) {
                rolled = rolled * 1103515245 + 12345;
                int got = rolled >>> 16 & 0x7fff;
                int c = got % county.comers;
                county.goes[c] = got / 8 % county.houses;
                county.comes[c] = got / 32 % (LAST_HOUR + 1);
                dinners += dinnersIn(1);
            }
            return dinners;
        }
    }

    /** Looks through what could be done; the first of the best plans stays. */
    private static final class Advice {
        final County now;
        final Trial trial;
        int plan = NONE;
        int dinners = 0;

        Advice(County now, Trial trial) {
            this.now = now;
            this.trial = trial;
        }

        int planOrDinners(int what) {
            return what == 0 || plan == NONE ? plan : dinners;
        }

        void sendOne(int c) {
            beginAt(-1);
            for (int i = 0; i <= now.houses; i++) {
                int to = now.destination(i);
                trial.restart().goes[c] = to;
                weigh(to, trial.dinnersIn(1));
            }
        }

        void sendTwo(int c, int d) {
            beginAt(-1);
            for (int i = 0; i <= now.houses; i++) {
                for (int j = 0; j <= now.houses; j++) {
                    County sent = trial.restart();
                    sent.goes[c] = now.destination(i);
                    sent.goes[d] = now.destination(j);
                    weigh(10 * sent.goes[c] + sent.goes[d], trial.dinnersIn(1));
                }
            }
        }

        void swapTwo() {
            trial.restart();
            beginAt(trial.dinnersIn(1));
            for (int c = 0; c < now.comers; c++) {
                for (int d = c + 1; d < now.comers; d++) {
                    if (now.goes[c] != now.goes[d]) {
                        County swapped = trial.restart();
                        swapped.goes[c] = now.goes[d];
                        swapped.goes[d] = now.goes[c];
                        weigh(10 * c + d, trial.dinnersIn(1));
                    }
                }
            }
        }

        void strikeOne() {
            trial.restart();
            beginAt(trial.dinnersIn(1));
            for (int h = 0; h < now.houses; h++) {
                for (int c = 0; c < now.comers; c++) {
                    if (now.onList(h, c)) {
                        trial.restart().setOnList(h, c, false);
                        weigh(10 * h + c, trial.dinnersIn(1));
                    }
                }
            }
        }

        void bestKind(int c, int n) {
            beginAt(-1);
            for (int k = 0; k < KINDS; k++) {
                trial.restart().kindOf[c] = k;
                weigh(k, trial.dinnersIn(n));
            }
        }

        /** Asked only of a comer who goes to a house. */
        int latestHour(int c) {
            int h = now.goes[c];
            if (h == NOWHERE) {
                return NONE;
            }
            for (int hour = LAST_HOUR; hour >= 0; hour--) {
                trial.restart().comes[c] = hour;
                if (trial.evening.holdAt(trial.county, h, EVERYBODY) != FASTING) {
                    return hour;
                }
            }
            return NONE;
        }

        int mostLiked(int h, int c) {
            for (int liking = MOST_LIKED; liking >= 0; liking--) {
                trial.restart().setLiked(h, c, liking);
                if (trial.evening.holdAt(trial.county, h, EVERYBODY) != FASTING) {
                    return liking;
                }
            }
            return NONE;
        }

        /** A plan must be better than that. */
        private void beginAt(int begun) {
            plan = NONE;
            dinners = begun;
        }

        private void weigh(int tried, int begun) {
            if (begun > dinners) {
                plan = tried;
                dinners = begun;
            }
        }
    }

    /** Odds as whole numbers of ofAll(): each comer has ten ways, v of which keep him at home. */
    private static final class Odds {
        final County now;
        final Trial trial;

        Odds(County now, Trial trial) {
            this.now = now;
            this.trial = trial;
        }

        long ofAll() {
            long ways = 1;
            for (int c = 0; c < now.comers; c++) {
                ways *= 10;
            }
            return ways;
        }

        long ofDinner(int v, int h) {
            long ways = 0;
            trial.restart();
            for (int coming = 0; coming < 1 << now.comers; coming++) {
                trial.county.copyLikingsFrom(now);
                if (trial.evening.holdAt(trial.county, h, coming) != FASTING) {
                    ways += ofComing(v, coming);
                }
            }
            return ways;
        }

        private long ofComing(int v, int coming) {
            long ways = 1;
            for (int c = 0; c < now.comers; c++) {
                ways *= (coming >> c & 1) == 1 ? 10 - v : v;
            }
            return ways;
        }
    }

    /** When dinners were seen to begin: behind so many evenings, at a house, in an hour or FASTING. */
    private static final class Sightings {
        int size = 0;
        final int[] behind = new int[MOST_SEEN];
        final int[] where = new int[MOST_SEEN];
        final int[] hours = new int[MOST_SEEN];

        boolean add(int n, int h, int t) {
            if (size >= MOST_SEEN) {
                return false;
            }
            behind[size] = n;
            where[size] = h;
            hours[size] = t;
            size++;
            return true;
        }

        void copyFrom(Sightings other) {
            size = other.size;
            System.arraycopy(other.behind, 0, behind, 0, MOST_SEEN);
            System.arraycopy(other.where, 0, where, 0, MOST_SEEN);
            System.arraycopy(other.hours, 0, hours, 0, MOST_SEEN);
        }

        /** How many evenings must be foretold so that all that was seen can be compared. */
        int reach() {
            int evenings = 0;
            for (int i = 0; i < size; i++) {
                evenings = Math.max(evenings, behind[i] + 1);
            }
            return evenings;
        }

        boolean agreeWith(int[] foretold) {
            for (int i = 0; i < size; i++) {
                if (foretold[behind[i] * MOST_HOUSES + where[i]] != hours[i]) {
                    return false;
                }
            }
            return true;
        }
    }

    /** Tells from when dinners began what a comer may be. */
    private static final class Guess {
        final County now;
        final Sightings seen;
        final Trial trial;
        /** For each kind (or, in the first row, each level) the hours, evening by evening, house by house. */
        final int[][] foretold = new int[KINDS][SEEN_SPAN * MOST_HOUSES];
        int question = NONE;
        int leftAtWorst = 0;

        Guess(County now, Sightings seen, Trial trial) {
            this.now = now;
            this.seen = seen;
            this.trial = trial;
        }

        int kindsLeft(int c, int span) {
            int bits = 0;
            for (int k = 0; k < KINDS; k++) {
                trial.restart().kindOf[c] = k;
                foretell(foretold[k], span);
                if (seen.agreeWith(foretold[k])) {
                    bits |= 1 << k;
                }
            }
            return bits;
        }

        int levelsLeft(int h, int c) {
            int bits = 0;
            int span = seen.reach();
            for (int liking = 0; liking <= MOST_LIKED; liking++) {
                trial.restart().setLiked(h, c, liking);
                foretell(foretold[0], span);
                if (seen.agreeWith(foretold[0])) {
                    bits |= 1 << liking;
                }
            }
            return bits;
        }

        /** Asked behind kindsLeft() over the whole span, of what it left. */
        void bestQuestion(int left) {
            question = NONE;
            leftAtWorst = Integer.bitCount(left);
            for (int n = 0; n < SEEN_SPAN; n++) {
                for (int h = 0; h < now.houses; h++) {
                    int worst = worstLeft(left, n * MOST_HOUSES + h);
                    if (worst < leftAtWorst) {
                        question = 10 * n + h;
                        leftAtWorst = worst;
                    }
                }
            }
        }

        private int worstLeft(int left, int spot) {
            int worst = 0;
            for (int hour = 0; hour <= FASTING; hour++) {
                int alike = 0;
                for (int k = 0; k < KINDS; k++) {
                    if ((left >> k & 1) == 1 && foretold[k][spot] == hour) {
                        alike++;
                    }
                }
                worst = Math.max(worst, alike);
            }
            return worst;
        }

        private void foretell(int[] row, int span) {
            for (int n = 0; n < span; n++) {
                trial.evening.hold(trial.county);
                for (int h = 0; h < now.houses; h++) {
                    row[n * MOST_HOUSES + h] = trial.evening.hours[h];
                }
            }
        }
    }

    /** What keep() holds. */
    private static final class Image {
        final County county = new County();
        final Sightings seen = new Sightings();
        boolean kept = false;
    }

    /** The bytes that were fed. */
    private static final class Tape {
        final int[] bytes = new int[TAPE_BYTES];
        int length = 0;

        boolean put(int c) {
            if (length >= TAPE_BYTES) {
                return false;
            }
            bytes[length] = c;
            length++;
            return true;
        }

        boolean isLetter(int i) {
            return i < length && bytes[i] >= 'a' && bytes[i] <= 'z';
        }

        boolean isFigure(int i) {
            return i < length && bytes[i] >= '0' && bytes[i] <= '9';
        }
    }

    /** Reads the tape token by token into a draft, so that a fault leaves what was told before. */
    private static final class TextReader {
        private static final int NAME = 0, NUMBER = 1, STOP = 2, FINISH = 3, WRONG = 4;
        private static final int NO_TOKEN = 1, OUT_OF_PLACE = 2, OUT_OF_BOUNDS = 3;
        private static final int TWICE = 4, TOO_MANY = 5, MISSING = 6;

        final Tape tape;
        final County draft = new County();
        int fault = 0;
        int faultPlace = 0;
        /** The token that was read last: its first byte, the one behind it, what it is. */
        int place = 0;
        int behind = 0;
        int sort = FINISH;
        int value = 0;

        TextReader(Tape tape) {
            this.tape = tape;
        }

        int readAll() {
            draft.clear();
            fault = 0;
            behind = 0;
            int lines = 0;
            readToken();
            while (sort != FINISH && lines < TAPE_BYTES) {
                if (!readLine()) {
                    return FAULT_BASE - faultPlace;
                }
                lines++;
                readToken();
            }
            if (!draft.namesOnlyWhatThereIs()) {
                fail(MISSING, tape.length);
                return FAULT_BASE - faultPlace;
            }
            return lines;
        }

        private boolean readLine() {
            if (!stands(NAME)) {
                return false;
            }
            if (named("house")) {
                return readHouse();
            }
            int ofKind = kindNamed();
            return ofKind == NONE ? fail(OUT_OF_PLACE, place) : readComer(ofKind);
        }

        private boolean readHouse() {
            if (draft.houses >= MOST_HOUSES) {
                return fail(TOO_MANY, place);
            }
            int h = draft.houses;
            draft.addHouse();
            // A list with more numbers than there can be comers has one twice.
            for (int i = 0; i <= MOST_COMERS; i++) {
                readToken();
                if (sort == STOP) {
                    return true;
                }
                if (!stands(NUMBER)) {
                    return false;
                }
                if (value >= MOST_COMERS) {
                    return fail(OUT_OF_BOUNDS, place);
                }
                if (draft.onList(h, value)) {
                    return fail(TWICE, place);
                }
                draft.setOnList(h, value, true);
            }
            return fail(TWICE, place);
        }

        private boolean readComer(int ofKind) {
            if (draft.comers >= MOST_COMERS) {
                return fail(TOO_MANY, place);
            }
            if (!readNumber()) {
                return false;
            }
            int house = value;
            if (house >= MOST_HOUSES && house != NOWHERE) {
                return fail(OUT_OF_BOUNDS, place);
            }
            if (!readNumber()) {
                return false;
            }
            int hour = value;
            if (hour > LAST_HOUR) {
                return fail(OUT_OF_BOUNDS, place);
            }
            if (!readNumber()) {
                return false;
            }
            int liking = value;
            if (liking > MOST_LIKED) {
                return fail(OUT_OF_BOUNDS, place);
            }
            draft.addComer(ofKind, house, hour, liking);
            readToken();
            return stands(STOP);
        }

        private boolean readNumber() {
            readToken();
            return stands(NUMBER);
        }

        /** Whether the token is of the sort that may stand here; else it is a fault. */
        private boolean stands(int wanted) {
            if (sort == wanted) {
                return true;
            }
            return fail(sort == WRONG ? NO_TOKEN : OUT_OF_PLACE, place);
        }

        private boolean fail(int found, int where) {
            fault = found;
            faultPlace = where;
            return false;
        }

        private void readToken() {
            place = behind;
            while (place < tape.length && tape.bytes[place] == ' ') {
                place++;
            }
            behind = place;
            if (place >= tape.length) {
                sort = FINISH;
            } else if (tape.isLetter(place)) {
                readName();
            } else if (tape.isFigure(place)) {
                readFigures();
            } else {
                behind = place + 1;
                sort = tape.bytes[place] == ';' ? STOP : WRONG;
            }
        }

        private void readName() {
            while (behind < tape.length && tape.isLetter(behind)) {
                behind++;
            }
            sort = NAME;
        }

        private void readFigures() {
            value = 0;
            while (behind < tape.length && tape.isFigure(behind)) {
                // Beyond two figures it is no number, and what it would be is not needed.
                if (behind < place + 2) {
                    value = value * 10 + tape.bytes[behind] - '0';
                }
                behind++;
            }
            sort = behind - place > 2 ? WRONG : NUMBER;
        }

        private int kindNamed() {
            if (named("friend")) {
                return FRIEND;
            }
            if (named("bore")) {
                return BORE;
            }
            if (named("aunt")) {
                return AUNT;
            }
            return named("enemy") ? ENEMY : NONE;
        }

        private boolean named(String name) {
            if (behind - place != name.length()) {
                return false;
            }
            for (int i = 0; i < name.length(); i++) {
                if (tape.bytes[place + i] != name.charAt(i)) {
                    return false;
                }
            }
            return true;
        }
    }

    /** A row of cells of one lane, or nothing. Cells are made once and used again. */
    private static final class Sheet {
        static final int BYTES = 0, SHORTS = 1, INTS = 2;
        private static final int NOTHING = -1;

        final int[] cells = new int[MOST_CELLS];
        int lane = BYTES;
        int size = NOTHING;

        boolean isNothing() {
            return size == NOTHING;
        }

        void renew(int asLane, int n) {
            lane = asLane;
            size = n;
            for (int i = 0; i < n; i++) {
                cells[i] = 0;
            }
        }

        void put(int i, int v) {
            if (lane == BYTES) {
                cells[i] = (byte) v;
            } else if (lane == SHORTS) {
                cells[i] = (short) v;
            } else {
                cells[i] = v;
            }
        }

        /** What the machine would find at cell i of this sheet taken as of a lane, or 0. */
        int faultAt(int asLane, int i) {
            if (isNothing()) {
                return NULL_FAULT;
            }
            if (lane != asLane) {
                return CAST_FAULT;
            }
            return i < 0 || i >= size ? INDEX_FAULT : 0;
        }

        int faultOfTwo(int asLane, int i) {
            int first = faultAt(asLane, i);
            return first != 0 ? first : faultAt(asLane, i + 1);
        }
    }
}
