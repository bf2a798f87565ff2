/** The boundary cases of IMAGES and SHEETS, of what the machine finds, and of count (promises 32 to 38). */
public final class SheetEdges {
    private static final int BAD = UnaskedGuests.BAD, STATE = UnaskedGuests.STATE, NONE = UnaskedGuests.NONE;
    private static final int MIN = Integer.MIN_VALUE, MAX = Integer.MAX_VALUE;
    private static final int BYTES = 0, SHORTS = 1, INTS = 2;

    public static void main(String[] args) throws Exception {
        Checks.runAll(SheetEdges.class);
    }

    private static UnaskedGuests county() {
        return Checks.told(Checks.COUNTY);
    }

    // ---- images

    static void imagesAre0And1() {
        Checks.bounds("keep", SheetEdges::county, 0, 1, UnaskedGuests::keep);
        Checks.bounds("keep", UnaskedGuests::new, 0, 1, UnaskedGuests::keep);
        Checks.bounds("back", () -> {
            UnaskedGuests x = county();
            x.keep(0);
            x.keep(1);
            return x;
        }, 0, 1, UnaskedGuests::back);
    }

    static void keepTellsWhetherThereWasOne() {
        UnaskedGuests x = county();
        Checks.due(0, x.keep(1));
        Checks.due(1, x.count(1));
        Checks.due(1, x.keep(1));
        Checks.due(1, x.count(1));
        Checks.due(0, x.keep(0));
        Checks.due(2, x.count(1));
        Checks.due(1, x.keep(0));
    }

    static void backToNoImageIsState() {
        UnaskedGuests x = county();
        Checks.due(STATE, x.back(0));
        Checks.due(STATE, x.back(1));
        x.keep(0);
        Checks.due(STATE, x.back(1));
        Checks.due(0, x.back(0));
        Checks.due(BAD, x.back(2));
        Checks.due(BAD, x.back(-1));
    }

    static void anImageMayBeOfNothing() {
        UnaskedGuests x = new UnaskedGuests();
        Checks.due(0, x.keep(0));
        x.evenings(5);
        Checks.due(0, x.back(0));
        Checks.due(0, x.rule(2));
        Checks.due(0, x.rule(0));
    }

    static void backTellsEveningUpTo999() {
        UnaskedGuests x = Checks.told("house;");
        for (int i = 0; i < 33; i++) {
            x.evenings(30);
        }
        x.evenings(9);
        x.keep(1);
        Checks.due(999, x.back(1));
        Checks.due(UnaskedGuests.FULL, x.evenings(1));
    }

    static void anImageKeepsAllThatIsTold() {
        UnaskedGuests x = county();
        x.evenings(2);
        x.see(9, 2, 7);
        x.keep(0);
        x.alter(0, 0, 3);
        x.alter(1, 1, 9);
        x.alter(2, 2, 6);
        x.fancy(2, 3, 0);
        x.invite(1, 1, true);
        x.invite(0, 0, false);
        x.see(0, 0, 0);
        x.evenings(1);
        Checks.due(2, x.back(0));
        Checks.due(2, x.rule(2));
        Checks.due(0, x.comer(0, 0));
        Checks.due(0, x.comer(1, 1));
        Checks.due(2, x.comer(2, 2));
        Checks.due(5, x.likes(2, 3));
        Checks.due(8, x.likes(0, 0));
        Checks.due(0, x.house(1, 0));
        Checks.due(1, x.house(0, 0));
        Checks.due(1, x.count(0));
        Checks.due(15, x.kinds(1));
    }

    static void anImageIsNotChangedByWhatComesBehindIt() {
        UnaskedGuests x = county();
        x.keep(0);
        x.back(0);
        x.fancy(0, 0, 9);
        x.invite(2, 1, true);
        x.alter(3, 0, 0);
        x.see(0, 0, 3);
        Checks.due(0, x.back(0));
        Checks.due(4, x.likes(0, 0));
        Checks.due(4, x.house(2, 0));
        Checks.due(1, x.comer(3, 0));
        Checks.due(0, x.count(0));
        Checks.due(1, x.count(1));
    }

    static void imagesAreEachForThemselves() {
        UnaskedGuests x = county();
        x.keep(0);
        x.fancy(0, 0, 9);
        x.see(0, 0, 7);
        x.keep(1);
        x.back(0);
        Checks.due(4, x.likes(0, 0));
        x.back(1);
        Checks.due(9, x.likes(0, 0));
        Checks.due(1, x.count(0));
        x.fancy(0, 0, 2);
        x.keep(0);
        x.back(1);
        Checks.due(9, x.likes(0, 0));
        x.back(0);
        Checks.due(2, x.likes(0, 0));
    }

    static void whatWasSeenComesBackWhole() {
        UnaskedGuests x = Checks.told("house;house;bore 1 6 9;");
        for (int i = 0; i < 5; i++) {
            x.see(0, 0, 7);
        }
        x.see(5, 1, 6);
        Checks.due(8, x.kinds(0));
        x.keep(0);
        x.forget(0);
        for (int i = 0; i < 6; i++) {
            x.see(0, 0, 0);
        }
        Checks.due(0, x.kinds(0));
        x.back(0);
        Checks.due(6, x.count(0));
        Checks.due(8, x.kinds(0));
        Checks.due(UnaskedGuests.FULL, x.see(0, 0, 7));
    }

    static void backLeavesTheTapeAndTheSheets() {
        UnaskedGuests x = county();
        x.keep(0);
        Checks.feedAll(x, "house;");
        x.sheet(0, 0, 7);
        x.back(0);
        Checks.due(6, x.count(2));
        Checks.due(7, x.count(3));
        Checks.due(1, x.text());
    }

    // ---- sheet, lay

    static void sheetsAre0To3OfLanes0To2With0To40Cells() {
        Checks.bounds("sheet", UnaskedGuests::new, 0, 3, (x, k) -> x.sheet(k, 0, 1));
        Checks.bounds("sheet", UnaskedGuests::new, 0, 2, (x, lane) -> x.sheet(0, lane, 1));
        UnaskedGuests x = new UnaskedGuests();
        for (int n = 0; n <= 40; n++) {
            Checks.due(1, x.sheet(0, n % 3, n));
            Checks.due(n, x.count(3));
        }
        Checks.due(BAD, x.sheet(0, 0, 41));
        Checks.due(BAD, x.sheet(0, 0, MAX));
        Checks.due(40, x.count(3));
    }

    static void aSizeBelow0IsWhatTheMachineFinds() {
        UnaskedGuests x = new UnaskedGuests();
        Checks.due(-14, x.sheet(0, 0, -1));
        Checks.due(-14, x.sheet(0, 2, MIN));
        Checks.due(NONE, x.count(3));
        Checks.due(-11, x.lay(0, 0, 0));
        x.sheet(0, 0, 3);
        Checks.due(-14, x.sheet(0, 1, -1));
        Checks.due(3, x.count(3));
        Checks.due(0, x.torn());
    }

    static void badComesAheadOfTheSize() {
        UnaskedGuests x = new UnaskedGuests();
        Checks.due(BAD, x.sheet(4, 0, -1));
        Checks.due(BAD, x.sheet(-1, 0, -1));
        Checks.due(BAD, x.sheet(0, 3, -1));
        Checks.due(BAD, x.sheet(0, -1, -1));
    }

    static void aNewRowIsOfCells0InPlaceOfTheOldOne() {
        UnaskedGuests x = Checks.told("house;house;bore 9 0 0;bore 9 0 0;");
        for (int lane = 0; lane < 3; lane++) {
            Checks.layRow(x, 1, lane, 1, 1, 1, 1);
            x.sheet(1, lane, 4);
            Checks.due(2, x.read(1, lane, 0, 2));
            Checks.due(0, x.comer(0, 1));
            Checks.due(NONE, x.alter(1, 1, 9));
        }
        Checks.layRow(x, 1, BYTES, 1, 1, 1, 1);
        x.sheet(1, BYTES, 2);
        Checks.due(-12, x.lay(1, 2, 0));
        x.sheet(1, BYTES, 4);
        Checks.due(1, x.read(1, BYTES, 2, 1));
        Checks.due(NONE, x.comer(1, 1));
    }

    static void sheetsAreEachForThemselves() {
        UnaskedGuests x = Checks.told("house;house;house;house;bore 9 0 0;");
        for (int k = 0; k < 4; k++) {
            Checks.layRow(x, k, k % 3, 0, k);
        }
        for (int k = 0; k < 4; k++) {
            Checks.due(1, x.read(k, k % 3, 0, 1));
            Checks.due(k, x.comer(0, 1));
        }
    }

    static void layIsOfSheets0To3() {
        Checks.bounds("lay", () -> {
            UnaskedGuests x = new UnaskedGuests();
            for (int k = 0; k < 4; k++) {
                x.sheet(k, 0, 1);
            }
            return x;
        }, 0, 3, (x, k) -> x.lay(k, 0, 0));
        UnaskedGuests nothing = new UnaskedGuests();
        Checks.due(BAD, nothing.lay(4, 0, 0));
        Checks.due(BAD, nothing.lay(-1, 0, 0));
    }

    static void layOnNothingIsNullWhateverTheCell() {
        UnaskedGuests x = new UnaskedGuests();
        for (int i : new int[] {0, -1, 40, MIN, MAX}) {
            Checks.due(-11, x.lay(3, i, 0));
        }
        Checks.due(0, x.torn());
    }

    static void layBesideTheCellsIsIndex() {
        for (int n : new int[] {0, 1, 2, 39, 40}) {
            for (int lane = 0; lane < 3; lane++) {
                UnaskedGuests x = new UnaskedGuests();
                x.sheet(2, lane, n);
                for (int i : new int[] {-1, n, n + 1, MIN, MAX}) {
                    Checks.due(-12, x.lay(2, i, 0));
                }
                if (n > 0) {
                    Checks.due(1, x.lay(2, 0, 0));
                    Checks.due(1, x.lay(2, n - 1, 0));
                }
            }
        }
    }

    /** Whether the comer 0, laid as that number, goes to house 1, laid as that one. */
    private static void laid(int lane, int comer, int house, boolean taken) {
        UnaskedGuests x = Checks.told("house;house;bore 9 0 0;");
        x.sheet(0, lane, 2);
        Checks.due(1, x.lay(0, 0, comer));
        Checks.due(1, x.lay(0, 1, house));
        Checks.due("lane " + lane + " " + comer + " " + house, taken ? 1 : -20, x.read(0, lane, 0, 1));
        Checks.due("lane " + lane + " " + comer + " " + house, taken ? 1 : NONE, x.comer(0, 1));
    }

    static void aCellHoldsTheLowestBits() {
        for (int lane = 0; lane < 3; lane++) {
            laid(lane, 0, 1, true);
            laid(lane, 0, 257, lane == BYTES);
            laid(lane, 256, 1, lane == BYTES);
            laid(lane, 0, -255, lane == BYTES);
            laid(lane, 0, 129, false);
            laid(lane, 0, 65537, lane != INTS);
            laid(lane, 65536, 1, lane != INTS);
            laid(lane, 0, -65535, lane != INTS);
            laid(lane, 0, 32769, lane == BYTES);
            laid(lane, MIN, 1, lane != INTS);
            laid(lane, 0, MIN + 1, lane != INTS);
            laid(lane, 0, MAX, false);
            laid(lane, -1, 1, false);
        }
    }

    // ---- read, torn

    private static UnaskedGuests withSheets() {
        UnaskedGuests x = county();
        for (int k = 0; k < 4; k++) {
            x.sheet(k, 0, 40);
        }
        return x;
    }

    static void readIsOfSheets0To3Lanes0To2AndUpTo20() {
        Checks.bounds("read", SheetEdges::withSheets, 0, 3, (x, k) -> x.read(k, 0, 0, 1));
        Checks.bounds("read", SheetEdges::withSheets, 0, 2, (x, lane) -> x.read(0, lane, 0, 1));
        Checks.bounds("read", SheetEdges::withSheets, 0, 20, (x, n) -> x.read(0, 0, 0, n));
        Checks.bounds("read", SheetEdges::withSheets, 0, 20, (x, n) -> x.read(0, 1, 0, n));
    }

    static void badComesAheadOfWhatTheMachineFinds() {
        UnaskedGuests x = county();
        Checks.due(BAD, x.read(4, 0, 0, 1));
        Checks.due(BAD, x.read(0, 3, 0, 1));
        Checks.due(BAD, x.read(0, 0, -1, 21));
        Checks.due(BAD, x.read(0, 0, 0, -1));
        Checks.due(0, x.torn());
    }

    static void readOf0BringsNobody() {
        UnaskedGuests x = withSheets();
        x.lay(0, 0, 99);
        Checks.due(0, x.read(0, 0, 0, 0));
        Checks.due(0, x.torn());
        Checks.due(0, x.read(0, 0, MAX, 0));
        Checks.due(0, x.read(0, 0, -1, 0));
        Checks.due(0, x.torn());
        Checks.due(3, x.house(0, 1));
    }

    static void readOf20FillsASheetOf40() {
        UnaskedGuests x = withSheets();
        x.lay(0, 38, 3);
        x.lay(0, 39, 2);
        Checks.due(20, x.read(0, 0, 0, 20));
        Checks.due(0, x.torn());
        Checks.due(2, x.comer(3, 1));
        Checks.due(0, x.comer(0, 1));
    }

    static void errandsAreReadOneBehindAnother() {
        UnaskedGuests x = county();
        Checks.layRow(x, 0, 0, 0, 2, 0, 9, 0, 1);
        Checks.due(1, x.read(0, 0, 0, 1));
        Checks.due(2, x.comer(0, 1));
        Checks.due(2, x.read(0, 0, 0, 2));
        Checks.due(NONE, x.comer(0, 1));
        Checks.due(3, x.read(0, 0, 0, 3));
        Checks.due(1, x.comer(0, 1));
    }

    static void theLastWholeErrandMayEndTheSheet() {
        UnaskedGuests x = withSheets();
        Checks.due(1, x.read(0, 0, 38, 1));
        Checks.due(0, x.torn());
        Checks.due(0, x.read(0, 0, 39, 1));
        Checks.due(2, x.torn());
        Checks.due(19, x.read(0, 0, 1, 20));
        Checks.due(2, x.torn());
        Checks.due(19, x.read(0, 0, 2, 20));
        Checks.due(2, x.torn());
        Checks.due(19, x.read(0, 0, 2, 19));
        Checks.due(0, x.torn());
    }

    static void cellsBesideTheSheetAreIndex() {
        UnaskedGuests x = withSheets();
        for (int f : new int[] {-1, -2, 40, 41, MIN, MIN + 1, MAX, MAX - 1, MAX - 38}) {
            x.read(0, 0, 0, 1);
            Checks.due(0, x.torn());
            Checks.due("from " + f, 0, x.read(0, 0, f, 1));
            Checks.due("from " + f, 2, x.torn());
            Checks.due("from " + f, 0, x.read(0, 0, f, 20));
            Checks.due("from " + f, 2, x.torn());
        }
    }

    static void aSheetOf0CellsIsNotNothing() {
        UnaskedGuests x = county();
        x.sheet(0, 1, 0);
        Checks.due(0, x.count(3));
        Checks.due(-12, x.lay(0, 0, 0));
        Checks.due(0, x.read(0, 1, 0, 1));
        Checks.due(2, x.torn());
        Checks.due(0, x.read(0, 0, 0, 1));
        Checks.due(3, x.torn());
    }

    static void nothingIsNullOfEveryLaneAndCell() {
        UnaskedGuests x = county();
        for (int lane = 0; lane < 3; lane++) {
            for (int f : new int[] {0, -1, MAX}) {
                Checks.due(0, x.read(3, lane, f, 20));
                Checks.due(1, x.torn());
            }
        }
    }

    static void anotherLaneIsCastWhateverTheCell() {
        UnaskedGuests x = county();
        for (int of = 0; of < 3; of++) {
            x.sheet(0, of, 4);
            for (int as = 0; as < 3; as++) {
                Checks.due(as == of ? 1 : 0, x.read(0, as, 0, 1));
                Checks.due(as == of ? 0 : 3, x.torn());
                Checks.due(0, x.read(0, as, -1, 1));
                Checks.due(as == of ? 2 : 3, x.torn());
            }
        }
    }

    static void thoseThatWereWholeAheadOfAFaultCame() {
        UnaskedGuests x = county();
        Checks.layRow(x, 0, 0, 0, 2, 1, 9, 3);
        Checks.due(2, x.read(0, 0, 0, 3));
        Checks.due(2, x.torn());
        Checks.due(2, x.comer(0, 1));
        Checks.due(NONE, x.comer(1, 1));
        Checks.due(1, x.comer(3, 1));
    }

    static void halfAnErrandIsNotRefusedByAlter() {
        UnaskedGuests x = county();
        Checks.layRow(x, 0, 0, 0, 2, 99);
        Checks.due(1, x.read(0, 0, 0, 2));
        Checks.due(2, x.torn());
        Checks.due(2, x.comer(0, 1));
    }

    static void aWholeErrandThatIsRefusedByAlterIsToldByItsPlace() {
        UnaskedGuests x = withSheets();
        for (int i = 0; i < 20; i++) {
            x.lay(0, 2 * i, 4);
            Checks.due(-20 - i, x.read(0, 0, 0, 20));
            Checks.due(-20, x.read(0, 0, 2 * i, 1));
            x.lay(0, 2 * i, 0);
            x.lay(0, 2 * i + 1, 3);
            Checks.due(-20 - i, x.read(0, 0, 0, 20));
            x.lay(0, 2 * i + 1, 0);
        }
        Checks.due(20, x.read(0, 0, 0, 20));
    }

    static void errandsAreOfComersAndHousesThatThereAre() {
        for (int v = -2; v < 12; v++) {
            UnaskedGuests x = county();
            Checks.layRow(x, 0, INTS, v, 1);
            Checks.due("comer " + v, v >= 0 && v <= 3 ? 1 : -20, x.read(0, INTS, 0, 1));
            Checks.layRow(x, 1, INTS, 0, v);
            Checks.due("to " + v, v >= 0 && v <= 2 || v == 9 ? 1 : -20, x.read(1, INTS, 0, 1));
        }
        UnaskedGuests all = Checks.told(Checks.FULL_COUNTY);
        Checks.layRow(all, 0, BYTES, 5, 3, 6, 0, 0, 4);
        Checks.due(1, all.read(0, BYTES, 0, 1));
        Checks.due(3, all.comer(5, 1));
        Checks.due(-20, all.read(0, BYTES, 2, 1));
        Checks.due(-20, all.read(0, BYTES, 4, 1));
        UnaskedGuests nobody = new UnaskedGuests();
        nobody.sheet(0, SHORTS, 2);
        Checks.due(-20, nobody.read(0, SHORTS, 0, 1));
    }

    static void byOneThatIsRefusedNoneCame() {
        UnaskedGuests x = county();
        Checks.layRow(x, 0, 0, 0, 2, 1, 9, 0, 3);
        Checks.due(-22, x.read(0, 0, 0, 3));
        Checks.due(0, x.comer(0, 1));
        Checks.due(0, x.comer(1, 1));
        Checks.due(4, x.count(4));
    }

    static void theFirstMetIsToldARefusalOrAFault() {
        UnaskedGuests x = county();
        Checks.layRow(x, 0, 0, 0, 2, 4, 0, 1);
        Checks.due(-21, x.read(0, 0, 0, 3));
        Checks.due(0, x.torn());
        Checks.due(0, x.comer(0, 1));
        Checks.layRow(x, 0, 0, 0, 3, 4, 0);
        Checks.due(-20, x.read(0, 0, 0, 2));
        // another lane is met ahead of a refusal, and so is a cell that there is not
        Checks.due(0, x.read(0, 1, 0, 2));
        Checks.due(3, x.torn());
        Checks.due(0, x.read(0, 0, -1, 2));
        Checks.due(2, x.torn());
    }

    static void tornIsOfTheLatestReadThatCameToAnEnd() {
        UnaskedGuests x = county();
        Checks.due(0, x.torn());
        x.read(1, 0, 0, 1);
        Checks.due(1, x.torn());
        Checks.layRow(x, 0, 0, 0, 1, 9, 9);
        Checks.due(BAD, x.read(0, 0, 0, 21));
        Checks.due(BAD, x.read(0, 3, 0, 1));
        Checks.due(BAD, x.read(4, 0, 0, 1));
        Checks.due(1, x.torn());
        Checks.due(-21, x.read(0, 0, 0, 2));
        Checks.due(1, x.torn());
        Checks.due(-12, x.lay(0, 4, 0));
        Checks.due(-14, x.sheet(0, 0, -1));
        Checks.due(1, x.torn());
        Checks.due(1, x.read(0, 0, 0, 1));
        Checks.due(0, x.torn());
    }

    // ---- count

    static void countIsAskedBy0To5() {
        Checks.bounds("count", SheetEdges::county, 0, 5, UnaskedGuests::count);
        Checks.bounds("count", UnaskedGuests::new, 0, 5, UnaskedGuests::count);
    }

    static void countsReachTheirBounds() {
        UnaskedGuests x = Checks.told(Checks.FULL_COUNTY);
        Checks.due(6, x.count(4));
        Checks.due(216, x.count(5));
        for (int c = 0; c < 6; c++) {
            x.alter(c, 1, 9);
            Checks.due(5 - c, x.count(4));
            for (int h = 0; h < 4; h++) {
                x.fancy(h, c, 0);
            }
            Checks.due(216 - 36 * (c + 1), x.count(5));
        }
        for (int i = 0; i < 6; i++) {
            x.see(0, 0, 0);
            Checks.due(i + 1, x.count(0));
        }
        x.keep(0);
        Checks.due(1, x.count(1));
        x.keep(1);
        Checks.due(2, x.count(1));
    }

    static void cellsAreCountedOfSheet0Alone() {
        UnaskedGuests x = new UnaskedGuests();
        for (int k = 1; k < 4; k++) {
            x.sheet(k, 0, 40);
            Checks.due(NONE, x.count(3));
        }
        x.sheet(0, 0, 0);
        Checks.due(0, x.count(3));
        x.sheet(0, 2, 40);
        Checks.due(40, x.count(3));
        x.sheet(1, 0, 0);
        Checks.due(40, x.count(3));
    }
}
