import java.math.BigInteger;
import java.util.ArrayList;
import java.util.HashSet;
import java.util.List;
import java.util.Random;
import java.util.Set;
import java.util.TreeMap;

/** Long runs of drawn calls, compared with a second, slow telling of the document. */
public final class ModelTests {
    private static final int BAD = -1, STATE = -2, FULL = -3, NONE = -4;
    private static final int RUNS = 250;
    private static final int CALLS = 300;

    private static final class Guest {
        String kind;
        Integer goes;
        int comes;
        int[] liked = new int[4];

        Guest copy() {
            Guest g = new Guest();
            g.kind = kind;
            g.goes = goes;
            g.comes = comes;
            g.liked = liked.clone();
            return g;
        }
    }

    private static final class World {
        List<Set<Integer>> lists = new ArrayList<>();
        List<Guest> guests = new ArrayList<>();
        List<int[]> seen = new ArrayList<>();
        int evening = 0;

        World copy() {
            World w = new World();
            for (Set<Integer> list : lists) {
                w.lists.add(new HashSet<>(list));
            }
            for (Guest g : guests) {
                w.guests.add(g.copy());
            }
            w.seen.addAll(seen);
            w.evening = evening;
            return w;
        }

        boolean unwelcome(int h, int c) {
            return !lists.get(h).contains(c) && guests.get(c).liked[h] <= 4;
        }

        /** Hour and opener at each house; null where they fast. */
        List<int[]> dine(Set<Integer> home) {
            List<int[]> out = new ArrayList<>();
            for (int h = 0; h < lists.size(); h++) {
                out.add(dineAt(h, home));
            }
            evening++;
            return out;
        }

        int[] dineAt(int h, Set<Integer> home) {
            for (int hour = 0; hour < 7; hour++) {
                List<Integer> there = new ArrayList<>();
                for (int c = 0; c < guests.size(); c++) {
                    Guest g = guests.get(c);
                    if (g.goes != null && g.goes == h && g.comes <= hour && !home.contains(c)) {
                        there.add(c);
                    }
                }
                for (int c : there) {
                    if (unwelcome(h, c)) {
                        return new int[] {hour, c};
                    }
                }
                for (int c : there) {
                    Guest g = guests.get(c);
                    g.liked[h] = warm(g.kind, g.liked[h], there.size());
                }
            }
            return null;
        }

        static int warm(String kind, int x, int there) {
            if (kind.equals("aunt")) {
                return Math.min(9, warm("friend", x, there) + 1);
            }
            if (kind.equals("enemy")) {
                return Math.max(0, warm("bore", x, there) - 1);
            }
            if (kind.equals("bore") && there < 3) {
                return x;
            }
            return Math.min(9, x + 1);
        }

        int dinners() {
            int n = 0;
            for (int[] d : dine(Set.of())) {
                n += d == null ? 0 : 1;
            }
            return n;
        }

        int dinners(int n) {
            int sum = 0;
            for (int i = 0; i < n; i++) {
                sum += dinners();
            }
            return sum;
        }

        boolean asSeen() {
            for (int[] s : seen) {
                World w = copy();
                w.dinners(s[0]);
                int[] d = w.dine(Set.of()).get(s[1]);
                if ((d == null ? 7 : d[0]) != s[2]) {
                    return false;
                }
            }
            return true;
        }

        int sum() {
            int sum = 0;
            for (Guest g : guests) {
                for (int h = 0; h < lists.size(); h++) {
                    sum += g.liked[h];
                }
            }
            return sum;
        }
    }

    private static final List<String> NAMES = List.of("friend", "bore", "aunt", "enemy");

    private static final class Model {
        World w = new World();
        World[] images = new World[2];
        StringBuilder tape = new StringBuilder();
        int fault = 0;
        int torn = 0;
        int[] lanes = new int[4];
        int[][] sheets = new int[4][];

        boolean h(int h) {
            return h >= 0 && h < w.lists.size();
        }

        boolean c(int c) {
            return c >= 0 && c < w.guests.size();
        }

        static boolean in(int v, int a, int b) {
            return a <= v && v <= b;
        }

        static final class Fault extends Exception {
            private static final long serialVersionUID = 1;
            final int what;
            final int place;

            Fault(int what, int place) {
                this.what = what;
                this.place = place;
            }
        }

        int at;
        int first;

        String token() throws Fault {
            String t = tape.toString();
            while (at < t.length() && t.charAt(at) == ' ') {
                at++;
            }
            first = at;
            if (at == t.length()) {
                return "";
            }
            java.util.regex.Matcher m = java.util.regex.Pattern.compile("[a-z]+|[0-9]+|;").matcher(t);
            m.region(at, t.length());
            if (!m.lookingAt() || Character.isDigit(t.charAt(at)) && m.end() - at > 2) {
                throw new Fault(1, at);
            }
            at = m.end();
            return m.group();
        }

        int number(String t) throws Fault {
            if (t.isEmpty() || !Character.isDigit(t.charAt(0))) {
                throw new Fault(2, first);
            }
            return Integer.parseInt(t);
        }

        int text() {
            World n = new World();
            int lines = 0;
            at = 0;
            try {
                for (String t = token(); !t.isEmpty(); t = token()) {
                    line(n, t);
                    lines++;
                }
                for (Set<Integer> list : n.lists) {
                    for (int c : list) {
                        if (c >= n.guests.size()) {
                            throw new Fault(6, tape.length());
                        }
                    }
                }
                for (Guest g : n.guests) {
                    if (g.goes != null && g.goes >= n.lists.size()) {
                        throw new Fault(6, tape.length());
                    }
                }
            } catch (Fault f) {
                fault = f.what;
                tape.setLength(0);
                return -10 - f.place;
            }
            fault = 0;
            tape.setLength(0);
            w = n;
            images = new World[2];
            return lines;
        }

        void line(World n, String t) throws Fault {
            if (t.equals("house")) {
                if (n.lists.size() == 4) {
                    throw new Fault(5, first);
                }
                Set<Integer> list = new HashSet<>();
                for (t = token(); !t.equals(";"); t = token()) {
                    int c = number(t);
                    if (c > 5) {
                        throw new Fault(3, first);
                    }
                    if (!list.add(c)) {
                        throw new Fault(4, first);
                    }
                }
                n.lists.add(list);
                return;
            }
            if (!NAMES.contains(t)) {
                throw new Fault(2, first);
            }
            if (n.guests.size() == 6) {
                throw new Fault(5, first);
            }
            Guest g = new Guest();
            g.kind = t;
            int house = number(token());
            if (house > 3 && house != 9) {
                throw new Fault(3, first);
            }
            g.goes = house == 9 ? null : Integer.valueOf(house);
            g.comes = number(token());
            if (g.comes > 6) {
                throw new Fault(3, first);
            }
            int liked = number(token());
            if (liked > 9) {
                throw new Fault(3, first);
            }
            java.util.Arrays.fill(g.liked, liked);
            if (!token().equals(";")) {
                throw new Fault(2, first);
            }
            n.guests.add(g);
        }

        int rule(int what) {
            List<int[]> d = w.copy().dine(Set.of());
            int bits = 0;
            int waited = 0;
            int listed = 0;
            for (int h = 0; h < d.size(); h++) {
                bits += d.get(h) == null ? 0 : 1 << h;
                waited += d.get(h) == null ? 7 : d.get(h)[0];
                listed += w.lists.get(h).size();
            }
            int[] all = {w.lists.size(), w.guests.size(), w.evening, bits, waited, listed};
            return in(what, 0, 5) ? all[what] : BAD;
        }

        int house(int h, int what) {
            if (!h(h) || !in(what, 0, 4)) {
                return BAD;
            }
            int list = 0;
            int go = 0;
            int un = 0;
            for (int c = 0; c < w.guests.size(); c++) {
                list += w.lists.get(h).contains(c) ? 1 << c : 0;
                go += Integer.valueOf(h).equals(w.guests.get(c).goes) ? 1 << c : 0;
                un += w.unwelcome(h, c) ? 1 << c : 0;
            }
            int[] d = w.copy().dine(Set.of()).get(h);
            return new int[] {list, go, d == null ? NONE : d[0], d == null ? NONE : d[1], un}[what];
        }

        int goes(Guest g) {
            return g.goes == null ? NONE : g.goes;
        }

        int comer(int c, int what) {
            if (!c(c) || !in(what, 0, 4)) {
                return BAD;
            }
            Guest g = w.guests.get(c);
            int on = 0;
            int sum = 0;
            for (int h = 0; h < w.lists.size(); h++) {
                on += w.lists.get(h).contains(c) ? 1 : 0;
                sum += g.liked[h];
            }
            return new int[] {NAMES.indexOf(g.kind), goes(g), g.comes, on, sum}[what];
        }

        int alter(World on, int c, int what, int v) {
            if (!c(c)) {
                return BAD;
            }
            Guest g = on.guests.get(c);
            if (what == 0 && in(v, 0, 3)) {
                int was = NAMES.indexOf(g.kind);
                g.kind = NAMES.get(v);
                return was;
            }
            if (what == 1 && (h(v) || v == 9)) {
                int was = goes(g);
                g.goes = v == 9 ? null : Integer.valueOf(v);
                return was;
            }
            if (what == 2 && in(v, 0, 6)) {
                int was = g.comes;
                g.comes = v;
                return was;
            }
            return BAD;
        }

        int fancy(int h, int c, int v) {
            if (!h(h) || !c(c) || !in(v, 0, 9)) {
                return BAD;
            }
            int was = w.guests.get(c).liked[h];
            w.guests.get(c).liked[h] = v;
            return was;
        }

        int invite(int h, int c, boolean is) {
            if (!h(h) || !c(c)) {
                return BAD;
            }
            return (is ? !w.lists.get(h).add(c) : w.lists.get(h).remove(c)) ? 1 : 0;
        }

        int evenings(int n) {
            if (!in(n, 0, 30)) {
                return BAD;
            }
            return w.evening + n >= 1000 ? FULL : w.dinners(n);
        }

        int runs(int n, int what) {
            if (!in(n, 0, 60) || !in(what, 0, 3)) {
                return BAD;
            }
            World x = w.copy();
            int begun = 0;
            int waited = 0;
            int fast = NONE;
            for (int i = 1; i <= n; i++) {
                for (int[] d : x.dine(Set.of())) {
                    begun += d == null ? 0 : 1;
                    waited += d == null ? 7 : d[0];
                    if (d == null && fast == NONE) {
                        fast = i;
                    }
                }
            }
            return new int[] {begun, waited, fast, x.sum()}[what];
        }

        int ahead(int h, int c, int n) {
            if (!h(h) || !c(c) || !in(n, 0, 60)) {
                return BAD;
            }
            World x = w.copy();
            x.dinners(n);
            return x.guests.get(c).liked[h];
        }

        int begins(int h, int n) {
            if (!h(h) || !in(n, 0, 60)) {
                return BAD;
            }
            World x = w.copy();
            x.dinners(n);
            int[] d = x.dine(Set.of()).get(h);
            return d == null ? NONE : d[0];
        }

        List<Integer> places() {
            List<Integer> all = new ArrayList<>();
            for (int h = 0; h < w.lists.size(); h++) {
                all.add(h);
            }
            all.add(9);
            return all;
        }

        int send(int c, int what) {
            if (!c(c) || !in(what, 0, 1)) {
                return BAD;
            }
            TreeMap<Integer, Integer> best = new TreeMap<>();
            for (int p : places()) {
                World x = w.copy();
                alter(x, c, 1, p);
                best.putIfAbsent(x.dinners(), p);
            }
            return what == 0 ? best.lastEntry().getValue() : best.lastKey();
        }

        int better(TreeMap<Integer, Integer> best, int what) {
            if (best.isEmpty() || best.lastKey() <= w.copy().dinners()) {
                return NONE;
            }
            return what == 0 ? best.lastEntry().getValue() : best.lastKey();
        }

        int swap(int what) {
            if (!in(what, 0, 1)) {
                return BAD;
            }
            TreeMap<Integer, Integer> best = new TreeMap<>();
            for (int c = 0; c < w.guests.size(); c++) {
                for (int d = c + 1; d < w.guests.size(); d++) {
                    World x = w.copy();
                    x.guests.get(c).goes = w.guests.get(d).goes;
                    x.guests.get(d).goes = w.guests.get(c).goes;
                    best.putIfAbsent(x.dinners(), 10 * c + d);
                }
            }
            return better(best, what);
        }

        int strike(int what) {
            if (!in(what, 0, 1)) {
                return BAD;
            }
            TreeMap<Integer, Integer> best = new TreeMap<>();
            for (int h = 0; h < w.lists.size(); h++) {
                for (int c = 0; c < w.guests.size(); c++) {
                    World x = w.copy();
                    if (x.lists.get(h).remove(c)) {
                        best.putIfAbsent(x.dinners(), 10 * h + c);
                    }
                }
            }
            return better(best, what);
        }

        int late(int c) {
            if (!c(c)) {
                return BAD;
            }
            if (w.guests.get(c).goes == null) {
                return STATE;
            }
            int latest = NONE;
            for (int hour = 0; hour < 7; hour++) {
                World x = w.copy();
                x.guests.get(c).comes = hour;
                latest = x.dine(Set.of()).get(w.guests.get(c).goes) == null ? latest : hour;
            }
            return latest;
        }

        int most(int h, int c) {
            if (!h(h) || !c(c)) {
                return BAD;
            }
            int most = NONE;
            for (int v = 0; v < 10; v++) {
                World x = w.copy();
                x.guests.get(c).liked[h] = v;
                most = x.dine(Set.of()).get(h) == null ? most : v;
            }
            return most;
        }

        int kind(int c, int n, int what) {
            if (!c(c) || !in(n, 0, 60) || !in(what, 0, 1)) {
                return BAD;
            }
            TreeMap<Integer, Integer> best = new TreeMap<>();
            for (int k = 0; k < 4; k++) {
                World x = w.copy();
                x.guests.get(c).kind = NAMES.get(k);
                best.putIfAbsent(x.dinners(n), k);
            }
            return what == 0 ? best.lastEntry().getValue() : best.lastKey();
        }

        int pair(int c, int d, int what) {
            if (!c(c) || !c(d) || c == d || !in(what, 0, 2)) {
                return BAD;
            }
            TreeMap<Integer, int[]> best = new TreeMap<>();
            for (int p : places()) {
                for (int q : places()) {
                    World x = w.copy();
                    alter(x, c, 1, p);
                    alter(x, d, 1, q);
                    best.putIfAbsent(x.dinners(), new int[] {p, q});
                }
            }
            return what == 0 ? best.lastKey() : best.lastEntry().getValue()[what - 1];
        }

        long odds(int v, int only, int what) {
            BigInteger sum = BigInteger.ZERO;
            BigInteger all = BigInteger.ZERO;
            for (int mask = 0; mask < 1 << w.guests.size(); mask++) {
                Set<Integer> home = new HashSet<>();
                BigInteger weight = BigInteger.ONE;
                for (int c = 0; c < w.guests.size(); c++) {
                    if ((mask & 1 << c) != 0) {
                        home.add(c);
                    }
                    weight = weight.multiply(BigInteger.valueOf(home.contains(c) ? v : 10 - v));
                }
                all = all.add(weight);
                List<int[]> d = w.copy().dine(home);
                for (int h = 0; h < d.size(); h++) {
                    if (d.get(h) != null && (only < 0 || only == h)) {
                        sum = sum.add(weight);
                    }
                }
            }
            BigInteger g = sum.gcd(all);
            return (what == 0 ? sum : all).divide(g).longValueExact();
        }

        long luck(int v, int h, int what) {
            return !in(v, 0, 10) || !h(h) || !in(what, 0, 1) ? BAD : odds(v, h, what);
        }

        long mean(int v, int what) {
            return !in(v, 0, 10) || !in(what, 0, 1) ? BAD : odds(v, -1, what);
        }

        int see(int n, int h, int t) {
            if (!in(n, 0, 9) || !h(h) || !in(t, 0, 7)) {
                return BAD;
            }
            if (w.seen.size() == 6) {
                return FULL;
            }
            w.seen.add(new int[] {n, h, t});
            return w.seen.size();
        }

        int forget(int n) {
            if (!in(n, 0, w.seen.size())) {
                return BAD;
            }
            int had = w.seen.size();
            w.seen = new ArrayList<>(w.seen.subList(0, n));
            return had;
        }

        int kinds(World base, int c) {
            int bits = 0;
            for (int k = 0; k < 4; k++) {
                World x = base.copy();
                x.guests.get(c).kind = NAMES.get(k);
                bits += x.asSeen() ? 1 << k : 0;
            }
            return bits;
        }

        int levels(int h, int c) {
            if (!h(h) || !c(c)) {
                return BAD;
            }
            int bits = 0;
            for (int v = 0; v < 10; v++) {
                World x = w.copy();
                x.guests.get(c).liked[h] = v;
                bits += x.asSeen() ? 1 << v : 0;
            }
            return bits;
        }

        int ask(int c, int what) {
            if (!c(c) || !in(what, 0, 1)) {
                return BAD;
            }
            int best = Integer.bitCount(kinds(w, c));
            int where = NONE;
            for (int n = 0; n < 10; n++) {
                for (int h = 0; h < w.lists.size(); h++) {
                    int worst = 0;
                    for (int t = 0; t < 8; t++) {
                        World x = w.copy();
                        x.seen.add(new int[] {n, h, t});
                        worst = Math.max(worst, Integer.bitCount(kinds(x, c)));
                    }
                    if (worst < best) {
                        best = worst;
                        where = 10 * n + h;
                    }
                }
            }
            return where == NONE || what == 0 ? where : best;
        }

        int drift(int seed, int n, int what) {
            if (!in(n, 1, 60) || !in(what, 0, 1)) {
                return BAD;
            }
            if (w.lists.isEmpty() || w.guests.isEmpty()) {
                return STATE;
            }
            World x = w.copy();
            long s = seed;
            int[] sums = new int[2];
            for (int i = 0; i < n; i++) {
                s = s * 1103515245L + 12345L & 0xffffffffL;
                int got = (int) (s / 65536 % 32768);
                Guest g = x.guests.get(got % x.guests.size());
                g.goes = got / 8 % x.lists.size();
                g.comes = got / 32 % 7;
                for (int[] d : x.dine(Set.of())) {
                    sums[0] += d == null ? 0 : 1;
                    sums[1] += d == null ? 7 : d[0];
                }
            }
            return sums[what];
        }

        int keep(int k) {
            if (!in(k, 0, 1)) {
                return BAD;
            }
            int was = images[k] == null ? 0 : 1;
            images[k] = w.copy();
            return was;
        }

        int back(int k) {
            if (!in(k, 0, 1)) {
                return BAD;
            }
            if (images[k] == null) {
                return STATE;
            }
            w = images[k].copy();
            return w.evening;
        }

        int sheet(int k, int lane, int n) {
            if (!in(k, 0, 3) || !in(lane, 0, 2) || n > 40) {
                return BAD;
            }
            if (n < 0) {
                return -14;
            }
            sheets[k] = new int[n];
            lanes[k] = lane;
            return 1;
        }

        int lay(int k, int i, int v) {
            if (!in(k, 0, 3)) {
                return BAD;
            }
            if (sheets[k] == null) {
                return -11;
            }
            if (!in(i, 0, sheets[k].length - 1)) {
                return -12;
            }
            sheets[k][i] = lanes[k] == 0 ? (byte) v : lanes[k] == 1 ? (short) v : v;
            return 1;
        }

        int read(int k, int lane, int f, int n) {
            if (!in(k, 0, 3) || !in(lane, 0, 2) || !in(n, 0, 20)) {
                return BAD;
            }
            World x = w.copy();
            int i = 0;
            int found = 0;
            for (; i < n; i++) {
                if (sheets[k] == null) {
                    found = 1;
                } else if (lanes[k] != lane) {
                    found = 3;
                } else if (f + 2L * i < 0 || f + 2L * i + 1 >= sheets[k].length) {
                    found = 2;
                }
                if (found != 0) {
                    break;
                }
                if (alter(x, sheets[k][f + 2 * i], 1, sheets[k][f + 2 * i + 1]) == BAD) {
                    return -20 - i;
                }
            }
            torn = found;
            w = x;
            return i;
        }

        int count(int what) {
            int go = 0;
            for (Guest g : w.guests) {
                go += g.goes == null ? 0 : 1;
            }
            int kept = (images[0] == null ? 0 : 1) + (images[1] == null ? 0 : 1);
            int cells = sheets[0] == null ? NONE : sheets[0].length;
            int[] all = {w.seen.size(), kept, tape.length(), cells, go, w.sum()};
            return in(what, 0, 5) ? all[what] : BAD;
        }
    }

    private static final Random RANDOM = new Random(19051104);
    private static int wrong = 0;

    private static int draw(int low, int high) {
        int odd = RANDOM.nextInt(400);
        if (odd == 0) {
            return RANDOM.nextInt();
        }
        return low - (odd == 1 ? 1 : 0) + RANDOM.nextInt(high - low + 1) + (odd == 2 ? 1 : 0);
    }

    private static String drawText() {
        StringBuilder s = new StringBuilder();
        int houses = RANDOM.nextInt(6) == 0 ? RANDOM.nextInt(6) : 1 + RANDOM.nextInt(4);
        int comers = RANDOM.nextInt(6) == 0 ? RANDOM.nextInt(8) : 1 + RANDOM.nextInt(6);
        int h = 0;
        int c = 0;
        while (h < houses || c < comers) {
            if (c == comers || h < houses && RANDOM.nextInt(3) == 0) {
                s.append("house");
                h++;
                for (int i = 0; i < comers; i++) {
                    if (RANDOM.nextInt(4) == 0) {
                        s.append(' ').append(i);
                    }
                }
            } else {
                s.append(NAMES.get(RANDOM.nextInt(4))).append(' ');
                c++;
                s.append(RANDOM.nextInt(8) == 0 || houses == 0 ? 9 : RANDOM.nextInt(houses)).append(' ');
                s.append(RANDOM.nextInt(7)).append(' ').append(RANDOM.nextInt(10));
            }
            s.append(';');
        }
        if (RANDOM.nextInt(3) == 0 && s.length() > 0) {
            String signs = "0123456789 ;;  ahouse9#";
            s.setCharAt(RANDOM.nextInt(s.length()), signs.charAt(RANDOM.nextInt(signs.length())));
        }
        return s.toString();
    }

    private static void check(int run, String call, int promise, long got, long want) {
        if (got != want && wrong++ < 20) {
            System.out.println("run " + run + ", promise " + promise + ": " + call + " answered " + got + ", due is " + want);
        }
    }

    private static void tell(int run, UnaskedGuests x, Model m) {
        String text = drawText();
        for (int i = 0; i < text.length(); i++) {
            int want = m.tape.length() == 160 ? FULL : m.tape.append(text.charAt(i)).length();
            check(run, "feed", 2, x.feed(text.charAt(i)), want);
        }
        String told = m.tape.toString();
        check(run, "text " + told, 4, x.text(), m.text());
        check(run, "fault " + told, 5, x.fault(), m.fault);
    }

    private static void call(int run, UnaskedGuests x, Model m) {
        int p = 6 + RANDOM.nextInt(33);
        int h = draw(0, Math.max(0, m.w.lists.size() - 1));
        int c = draw(0, Math.max(0, m.w.guests.size() - 1));
        int d = draw(0, Math.max(0, m.w.guests.size() - 1));
        int two = draw(0, 1);
        int v = draw(0, 9);
        int n = draw(0, 60);
        int k = draw(0, 3);
        int lane = RANDOM.nextInt(4) == 0 ? draw(0, 2) : 0;
        String all = p + ": h " + h + " c " + c + " d " + d + " two " + two + " v " + v + " n " + n;
        switch (p) {
            case 6 -> { int w = draw(0, 5); check(run, all, p, x.rule(w), m.rule(w)); }
            case 7 -> { int w = draw(0, 4); check(run, all, p, x.house(h, w), m.house(h, w)); }
            case 8 -> { int w = draw(0, 4); check(run, all, p, x.comer(c, w), m.comer(c, w)); }
            case 9 -> check(run, all, p, x.likes(h, c), m.h(h) && m.c(c) ? m.w.guests.get(c).liked[h] : BAD);
            case 10 -> {
                int w = draw(0, 2);
                int to = w == 1 && RANDOM.nextInt(6) > 0 ? h : draw(0, 9);
                check(run, all, p, x.alter(c, w, to), m.alter(m.w, c, w, to));
            }
            case 11 -> check(run, all, p, x.fancy(h, c, v), m.fancy(h, c, v));
            case 12 -> check(run, all, p, x.invite(h, c, two == 0), m.invite(h, c, two == 0));
            case 13 -> { int e = RANDOM.nextInt(6) == 0 ? draw(0, 30) : draw(0, 2);
                check(run, all, p, x.evenings(e), m.evenings(e)); }
            case 14 -> { int w = draw(0, 3); check(run, all, p, x.runs(n, w), m.runs(n, w)); }
            case 15 -> check(run, all, p, x.ahead(h, c, n), m.ahead(h, c, n));
            case 16 -> check(run, all, p, x.begins(h, n), m.begins(h, n));
            case 17 -> check(run, all, p, x.send(c, two), m.send(c, two));
            case 18 -> check(run, all, p, x.swap(two), m.swap(two));
            case 19 -> check(run, all, p, x.strike(two), m.strike(two));
            case 20 -> check(run, all, p, x.late(c), m.late(c));
            case 21 -> check(run, all, p, x.most(h, c), m.most(h, c));
            case 22 -> check(run, all, p, x.kind(c, n, two), m.kind(c, n, two));
            case 23 -> { int w = draw(0, 2); check(run, all, p, x.pair(c, d, w), m.pair(c, d, w)); }
            case 24 -> { int o = draw(0, 10); check(run, all, p, x.luck(o, h, two), m.luck(o, h, two)); }
            case 25 -> { int o = draw(0, 10); check(run, all, p, x.mean(o, two), m.mean(o, two)); }
            case 26 -> {
                int t = draw(0, 7);
                if (RANDOM.nextInt(4) > 0) {
                    int was = m.begins(h, v);
                    t = was == NONE ? 7 : Math.max(0, was);
                }
                check(run, all, p, x.see(v, h, t), m.see(v, h, t));
            }
            case 27 -> { int f = draw(0, 6); check(run, all, p, x.forget(f), m.forget(f)); }
            case 28 -> check(run, all, p, x.kinds(c), m.c(c) ? m.kinds(m.w, c) : BAD);
            case 29 -> check(run, all, p, x.levels(h, c), m.levels(h, c));
            case 30 -> check(run, all, p, x.ask(c, two), m.ask(c, two));
            case 31 -> { int s = RANDOM.nextInt(); check(run, all, p, x.drift(s, n, two), m.drift(s, n, two)); }
            case 32 -> check(run, all, p, x.keep(two), m.keep(two));
            case 33 -> check(run, all, p, x.back(two), m.back(two));
            case 34 -> { int e = draw(0, 40); check(run, all, p, x.sheet(k, lane, e), m.sheet(k, lane, e)); }
            case 35 -> {
                for (int i = 0; i < 8; i++) {
                    int to = i % 2 == 0 ? c : v > 6 ? 9 : h;
                    check(run, all, p, x.lay(k, i, to), m.lay(k, i, to));
                }
            }
            case 36 -> {
                int f = RANDOM.nextInt(2) == 0 ? 0 : draw(0, 40);
                int e = draw(0, 20);
                check(run, all, p, x.read(k, lane, f, e), m.read(k, lane, f, e));
            }
            case 37 -> check(run, all, p, x.torn(), m.torn);
            default -> { int w = draw(0, 5); check(run, all, p, x.count(w), m.count(w)); }
        }
    }

    private static void compareAll(int run, UnaskedGuests x, Model m) {
        for (int what = 0; what < 6; what++) {
            check(run, "rule " + what, 6, x.rule(what), m.rule(what));
            check(run, "count " + what, 38, x.count(what), m.count(what));
        }
        for (int c = 0; c < 6; c++) {
            for (int h = 0; h < 5; h++) {
                check(run, "house", 7, x.house(h, c), m.house(h, c));
                check(run, "comer", 8, x.comer(c, h), m.comer(c, h));
                check(run, "likes", 9, x.likes(h, c), m.h(h) && m.c(c) ? m.w.guests.get(c).liked[h] : BAD);
            }
        }
    }

    public static void main(String[] args) {
        for (int run = 0; run < RUNS && wrong == 0; run++) {
            UnaskedGuests x = new UnaskedGuests();
            Model m = new Model();
            tell(run, x, m);
            for (int i = 0; i < CALLS && wrong == 0; i++) {
                if (RANDOM.nextInt(150) == 0 || m.w.lists.isEmpty() && RANDOM.nextInt(4) == 0) {
                    tell(run, x, m);
                }
                call(run, x, m);
            }
            compareAll(run, x, m);
        }
        System.out.println(wrong == 0 ? "the class and its model agree" : "they do not agree");
        if (wrong != 0) {
            System.exit(1);
        }
    }
}
