import java.util.ArrayList;
import java.util.List;
import java.util.function.Consumer;
import java.util.function.ToLongFunction;

/**
 * What is refused changes nothing (but THE TAPE, as told), and neither does what only asks: each call is
 * made on one of two objects that are alike, and then all that can be seen of both is compared.
 */
public final class RefusalTests {
    private static final int BAD = UnaskedGuests.BAD, STATE = UnaskedGuests.STATE;
    private static final int FULL = UnaskedGuests.FULL;
    private static final int MIN = Integer.MIN_VALUE, MAX = Integer.MAX_VALUE;
    /** Where allOf() tells fault(). */
    private static final int FAULT_AT = 12;

    public static void main(String[] args) throws Exception {
        Checks.runAll(RefusalTests.class);
    }

    /** Something of everything: evenings, what is seen, images, sheets, a fault, a torn sheet, a tape. */
    private static UnaskedGuests rich() {
        UnaskedGuests x = Checks.told(
                "house 0;house;house 2 1;friend 0 0 4;enemy 0 1 6;aunt 1 2 2;bore 1 0 5;enemy 9 6 8;");
        x.evenings(2);
        x.see(0, 0, 1);
        x.see(3, 1, 2);
        x.keep(0);
        x.fancy(2, 4, 3);
        x.alter(3, 2, 4);
        x.invite(1, 3, true);
        x.evenings(1);
        x.see(1, 2, 7);
        x.keep(1);
        x.alter(2, 1, 2);
        Checks.layRow(x, 0, 0, 0, 1, 3, 9);
        Checks.layRow(x, 1, 1, 4, 0, 2, 1);
        Checks.layRow(x, 2, 2, 1, 2, 0, 0);
        x.read(0, 0, 3, 1);
        Checks.tell(x, "house 6");
        Checks.feedAll(x, "house;bore 0 6 7;");
        return x;
    }

    /** All that can be seen; the calls at the end change much, for images, sheets and tape show only so. */
    private static List<Long> allOf(UnaskedGuests x) {
        List<Long> seen = new ArrayList<>();
        for (int what = 0; what < 6; what++) {
            seen.add((long) x.rule(what));
            seen.add((long) x.count(what));
        }
        seen.add((long) x.fault());
        seen.add((long) x.torn());
        for (int c = 0; c < 5; c++) {
            seen.add((long) x.kinds(c));
            for (int what = 0; what < 4; what++) {
                seen.add((long) x.comer(c, what));
            }
            for (int h = 0; h < 3; h++) {
                seen.add((long) x.likes(h, c));
            }
        }
        for (int h = 0; h < 3; h++) {
            seen.add((long) x.house(h, 0));
            seen.add((long) x.house(h, 3));
        }
        for (int k = 0; k < 4; k++) {
            for (int lane = 0; lane < 3; lane++) {
                seen.add((long) x.read(k, lane, 0, 3));
                seen.add((long) x.torn());
                seen.add((long) x.house(0, 1));
                seen.add((long) x.house(1, 1));
                seen.add((long) x.house(2, 1));
            }
        }
        for (int k = 0; k < 2; k++) {
            seen.add((long) x.back(k));
            seen.add((long) x.count(0));
            seen.add((long) x.count(5));
            seen.add((long) x.rule(5));
            seen.add((long) x.kinds(1));
            for (int c = 0; c < 5; c++) {
                seen.add((long) x.comer(c, 1));
                seen.add((long) x.comer(c, 2));
            }
        }
        seen.add((long) x.text());
        seen.add((long) x.fault());
        seen.add((long) x.rule(0));
        seen.add((long) x.rule(1));
        seen.add((long) x.comer(0, 2));
        return seen;
    }

    private static void changesNothing(String call, Consumer<UnaskedGuests> made, ToLongFunction<UnaskedGuests> asked) {
        UnaskedGuests x = rich();
        UnaskedGuests y = rich();
        made.accept(x);
        made.accept(y);
        asked.applyAsLong(x);
        if (!allOf(x).equals(allOf(y))) {
            Checks.wrong(call + " changed something");
        }
    }

    private static void refused(String call, long want, ToLongFunction<UnaskedGuests> asked) {
        refused(call, want, x -> { }, asked);
    }

    /** The call, on the rich object as it was made ready, answers so and changes nothing. */
    private static void refused(String call, long want, Consumer<UnaskedGuests> ready, ToLongFunction<UnaskedGuests> asked) {
        UnaskedGuests x = rich();
        ready.accept(x);
        Checks.due(call, want, asked.applyAsLong(x));
        Checks.due(call + " again", want, asked.applyAsLong(x));
        changesNothing(call, ready, asked);
    }

    private static void asks(String call, ToLongFunction<UnaskedGuests> asked) {
        UnaskedGuests x = rich();
        long first = asked.applyAsLong(x);
        Checks.due(call + " again", first, asked.applyAsLong(x));
        changesNothing(call, y -> { }, asked);
    }

    // ---- the probe itself

    /** Without this the comparison could be blind: each change here must be seen. */
    static void theComparisonSeesEachChange() {
        List<Long> as = allOf(rich());
        List<Consumer<UnaskedGuests>> changes = List.of(x -> x.feed(';'), x -> x.end(6), UnaskedGuests::text,
            x -> x.alter(0, 0, 3), x -> x.alter(0, 1, 2), x -> x.alter(0, 2, 5), x -> x.fancy(2, 4, 9),
            x -> x.invite(2, 4, true), x -> x.evenings(1), x -> x.see(0, 0, 0), x -> x.forget(2),
            x -> x.keep(0), x -> x.keep(1), x -> x.back(0), x -> x.sheet(3, 0, 4), x -> x.sheet(0, 1, 4),
            x -> x.lay(0, 1, 0), x -> x.lay(1, 3, 0), x -> x.lay(2, 0, 4), x -> x.read(0, 0, 0, 1));
        for (int i = 0; i < changes.size(); i++) {
            UnaskedGuests x = rich();
            changes.get(i).accept(x);
            if (allOf(x).equals(as)) {
                Checks.wrong("change " + i + " is not seen");
            }
        }
    }

    // ---- BAD

    static void ofTheTextBad() {
        for (int v : new int[] {-1, 128, MIN, MAX}) {
            refused("feed " + v, BAD, x -> x.feed(v));
        }
        for (int v : new int[] {-1, 18, MIN, MAX}) {
            refused("end " + v, BAD, x -> x.end(v));
        }
    }

    static void ofWhatIsChangedBad() {
        for (int c : new int[] {-1, 5, MIN, MAX}) {
            for (int what = 0; what < 3; what++) {
                int asked = what;
                refused("alter " + c, BAD, x -> x.alter(c, asked, 1));
            }
            refused("fancy " + c, BAD, x -> x.fancy(0, c, 1));
            refused("invite " + c, BAD, x -> x.invite(0, c, true));
            refused("invite " + c, BAD, x -> x.invite(0, c, false));
        }
        for (int what : new int[] {-1, 3, MIN, MAX}) {
            refused("alter by " + what, BAD, x -> x.alter(0, what, 1));
        }
        for (int v : new int[] {-1, 4, 9, MIN, MAX}) {
            refused("alter to kind " + v, BAD, x -> x.alter(0, 0, v));
        }
        for (int v : new int[] {-1, 3, 4, 8, 10, MIN, MAX}) {
            refused("alter to house " + v, BAD, x -> x.alter(0, 1, v));
        }
        for (int v : new int[] {-1, 7, 9, MIN, MAX}) {
            refused("alter to hour " + v, BAD, x -> x.alter(0, 2, v));
        }
        for (int v : new int[] {-1, 10, MIN, MAX}) {
            refused("fancy to " + v, BAD, x -> x.fancy(0, 0, v));
        }
        for (int h : new int[] {-1, 3, MIN, MAX}) {
            refused("fancy at " + h, BAD, x -> x.fancy(h, 0, 1));
            refused("invite at " + h, BAD, x -> x.invite(h, 0, true));
            refused("invite at " + h, BAD, x -> x.invite(h, 0, false));
        }
    }

    static void ofEveningsBad() {
        for (int n : new int[] {-1, 31, MIN, MAX}) {
            refused("evenings " + n, BAD, x -> x.evenings(n));
        }
        for (int n : new int[] {-1, 61, MIN, MAX}) {
            refused("runs " + n, BAD, x -> x.runs(n, 0));
            refused("ahead " + n, BAD, x -> x.ahead(0, 0, n));
            refused("begins " + n, BAD, x -> x.begins(0, n));
            refused("kind " + n, BAD, x -> x.kind(0, n, 0));
            refused("drift " + n, BAD, x -> x.drift(1, n, 0));
        }
        refused("drift of 0", BAD, x -> x.drift(1, 0, 0));
    }

    static void ofWhatWasSeenBad() {
        for (int n : new int[] {-1, 10, MIN, MAX}) {
            refused("see behind " + n, BAD, x -> x.see(n, 0, 0));
        }
        for (int h : new int[] {-1, 3, MIN, MAX}) {
            refused("see at " + h, BAD, x -> x.see(0, h, 0));
        }
        for (int t : new int[] {-1, 8, MIN, MAX}) {
            refused("see in " + t, BAD, x -> x.see(0, 0, t));
        }
        for (int n : new int[] {-1, 4, MIN, MAX}) {
            refused("forget " + n, BAD, x -> x.forget(n));
        }
    }

    static void ofImagesAndSheetsBad() {
        for (int k : new int[] {-1, 2, MIN, MAX}) {
            refused("keep " + k, BAD, x -> x.keep(k));
            refused("back " + k, BAD, x -> x.back(k));
        }
        for (int k : new int[] {-1, 4, MIN, MAX}) {
            refused("sheet " + k, BAD, x -> x.sheet(k, 0, 1));
            refused("lay " + k, BAD, x -> x.lay(k, 0, 1));
            refused("read " + k, BAD, x -> x.read(k, 0, 0, 1));
        }
        for (int lane : new int[] {-1, 3, MIN, MAX}) {
            refused("sheet of lane " + lane, BAD, x -> x.sheet(0, lane, 1));
            refused("read as of lane " + lane, BAD, x -> x.read(0, lane, 0, 1));
        }
        for (int n : new int[] {41, MAX}) {
            refused("sheet of " + n, BAD, x -> x.sheet(0, 0, n));
        }
        for (int n : new int[] {-1, 21, MIN, MAX}) {
            refused("read of " + n, BAD, x -> x.read(0, 0, 0, n));
        }
    }

    // ---- STATE, FULL

    static void aFullTapeIsNotChanged() {
        refused("feed", FULL, x -> Checks.feedAll(x, " ".repeat(143)), x -> x.feed(';'));
        refused("feed", BAD, x -> Checks.feedAll(x, " ".repeat(143)), x -> x.feed(128));
    }

    private static void toEvening999(UnaskedGuests x) {
        for (int i = 0; i < 33; i++) {
            x.evenings(30);
        }
        x.evenings(6);
        x.fancy(0, 0, 3);
    }

    static void eveningsThatAreFullChangeNothing() {
        refused("evenings(1)", FULL, RefusalTests::toEvening999, x -> x.evenings(1));
        refused("evenings(30)", FULL, RefusalTests::toEvening999, x -> x.evenings(30));
    }

    static void seenThatAreFullStay() {
        Consumer<UnaskedGuests> six = x -> {
            x.see(0, 0, 1);
            x.see(0, 0, 1);
            x.see(0, 0, 1);
        };
        refused("see", FULL, six, x -> x.see(0, 0, 2));
        refused("see", BAD, six, x -> x.see(0, 0, 8));
    }

    static void noImageIsState() {
        UnaskedGuests x = Checks.told(Checks.COUNTY);
        x.fancy(0, 0, 7);
        x.see(0, 0, 0);
        x.evenings(1);
        Checks.due(STATE, x.back(0));
        Checks.due(STATE, x.back(1));
        Checks.due(1, x.rule(2));
        Checks.due(1, x.count(0));
        Checks.due(3, x.rule(0));
        Checks.due(0, x.count(1));
    }

    static void oneWhoGoesToNoneIsState() {
        refused("late", STATE, x -> x.late(4));
    }

    // ---- FAULTS

    static void aTextThatIsNotTakenLeavesAllButTheTape() {
        String[] texts = {"#", "x", "house 6;", "house 0 0;", "house;house;house;house;house;", "house 5;"};
        for (int i = 0; i < texts.length; i++) {
            UnaskedGuests x = rich();
            UnaskedGuests y = rich();
            x.end(0);
            y.end(0);
            if (Checks.tell(x, texts[i]) > -10) {
                Checks.wrong(texts[i] + " was taken");
            }
            Checks.due(texts[i], i + 1, x.fault());
            Checks.due(texts[i], 0, x.count(2));
            List<Long> as = allOf(x);
            List<Long> was = allOf(y);
            as.remove(FAULT_AT);
            was.remove(FAULT_AT);
            if (!as.equals(was)) {
                Checks.wrong(texts[i] + " changed something");
            }
        }
    }

    static void whatTheMachineFindsOfASheetLeavesIt() {
        refused("sheet(0, 1, -1)", -14, x -> x.sheet(0, 1, -1));
        refused("sheet(3, 0, MIN)", -14, x -> x.sheet(3, 0, MIN));
        refused("lay(3, 0, 1)", -11, x -> x.lay(3, 0, 1));
        for (int i : new int[] {-1, 4, 40, MIN, MAX}) {
            refused("lay(0, " + i + ", 1)", -12, x -> x.lay(0, i, 1));
        }
    }

    static void errandsThatAreRefusedChangeNothing() {
        refused("read", -21, x -> x.lay(0, 2, 5), x -> x.read(0, 0, 0, 2));
        refused("read", -21, x -> x.lay(0, 3, 3), x -> x.read(0, 0, 0, 2));
        refused("read", -20, x -> x.lay(1, 0, -1), x -> x.read(1, 1, 0, 2));
        refused("read", -21, x -> x.lay(2, 3, MAX), x -> x.read(2, 2, 0, 3));
    }

    // ---- what only asks

    static void whatIsToldOfTheTextOnlyAsks() {
        for (int what = -1; what < 7; what++) {
            int asked = what;
            asks("rule " + what, x -> x.rule(asked));
            asks("count " + what, x -> x.count(asked));
            asks("house " + what, x -> x.house(1, asked));
            asks("comer " + what, x -> x.comer(1, asked));
        }
        asks("likes", x -> x.likes(2, 4));
        asks("fault", UnaskedGuests::fault);
        asks("torn", UnaskedGuests::torn);
    }

    static void byEveningsOnlyAsks() {
        for (int what = 0; what < 4; what++) {
            int asked = what;
            asks("runs", x -> x.runs(60, asked));
        }
        asks("ahead", x -> x.ahead(0, 0, 60));
        asks("begins", x -> x.begins(0, 60));
        asks("drift", x -> x.drift(7, 60, 0));
        asks("drift", x -> x.drift(7, 60, 1));
    }

    static void whatIsBestOnlyAsks() {
        for (int c = 0; c < 5; c++) {
            int of = c;
            asks("send", x -> x.send(of, 0));
            asks("late", x -> x.late(of));
            asks("most", x -> x.most(1, of));
            asks("kind", x -> x.kind(of, 60, 0));
            asks("pair", x -> x.pair(of, (of + 1) % 5, 1));
        }
        asks("swap", x -> x.swap(0));
        asks("swap", x -> x.swap(1));
        asks("strike", x -> x.strike(0));
        asks("strike", x -> x.strike(1));
    }

    static void oddsAndGuessesOnlyAsk() {
        for (int v : new int[] {0, 5, 10}) {
            asks("luck", x -> x.luck(v, 0, 0));
            asks("mean", x -> x.mean(v, 1));
        }
        for (int c = 0; c < 5; c++) {
            int of = c;
            asks("kinds", x -> x.kinds(of));
            asks("levels", x -> x.levels(1, of));
            asks("ask", x -> x.ask(of, 0));
        }
    }

    static void askingWhatIsNotOnlyRefuses() {
        for (int v : new int[] {-1, 9, MIN, MAX}) {
            refused("rule", BAD, x -> x.rule(v));
            refused("house", BAD, x -> x.house(v, 0));
            refused("house", BAD, x -> x.house(0, v));
            refused("comer", BAD, x -> x.comer(v, 0));
            refused("comer", BAD, x -> x.comer(0, v));
            refused("likes", BAD, x -> x.likes(v, 0));
            refused("likes", BAD, x -> x.likes(0, v));
            refused("send", BAD, x -> x.send(v, 0));
            refused("swap", BAD, x -> x.swap(v));
            refused("strike", BAD, x -> x.strike(v));
            refused("late", BAD, x -> x.late(v));
            refused("most", BAD, x -> x.most(v, 0));
            refused("most", BAD, x -> x.most(0, v));
            refused("pair", BAD, x -> x.pair(v, 0, 0));
            refused("pair", BAD, x -> x.pair(0, v, 0));
            refused("luck", BAD, x -> x.luck(0, v, 0));
            refused("mean", BAD, x -> x.mean(0, v));
            refused("kinds", BAD, x -> x.kinds(v));
            refused("levels", BAD, x -> x.levels(0, v));
            refused("ask", BAD, x -> x.ask(v, 0));
            refused("count", BAD, x -> x.count(v));
        }
    }
}
