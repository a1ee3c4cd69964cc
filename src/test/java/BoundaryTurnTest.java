/** The boundary cases that promises 5, 6 and 12 name: turn, repair and turn's order; a test for each. */
public final class BoundaryTurnTest {
    private static final int BAD = CardFlash.BAD;
    private static final int EMPTY = CardFlash.EMPTY;
    private static final int DAMAGED = CardFlash.DAMAGED;
    private static final int[] SECTORS_TOO_SMALL = {-1, -2, -15, -16, -65536, Integer.MIN_VALUE};
    private static final int[] SECTORS_TOO_LARGE = {16, 17, 31, 32, 65536, Integer.MAX_VALUE};
    /** Java's shifts look at five bits of a distance alone: -32 and 32 shift as 0 does, -11 and 53 as 21. */
    private static final int[] BITS_TOO_SMALL = {-1, -11, -22, -31, -32, Integer.MIN_VALUE};
    private static final int[] BITS_TOO_LARGE = {22, 23, 31, 32, 53, 64, Integer.MAX_VALUE};
    private static final Cases CASES = new Cases();

    public static void main(String[] args) {
        turned();
        turnedBack();
        turnBadSector();
        turnBadBit();
        turnEmpty();
        turnDamaged();
        repairAnswers();
        repairTurnsBack();
        repairChangesNothing();
        orderOfTests();
        CASES.end();
    }

    /** "The bit of the written sector is turned [...] Answers how many of its bits are turned then" */
    private static void turned() {
        CASES.test("promise 5: 1 for the first bit", card -> {
            card.store(0, 9);
            card.turn(0, 0).is(1);
            card.holds(0, 9, 0);
        });
        CASES.test("promise 5: 1 for the last bit", card -> {
            card.store(15, 9);
            card.turn(15, 21).is(1);
            card.holds(15, 9, 21);
        });
        CASES.test("promise 5: 2 for a second bit", card -> {
            card.store(7, 9, 0);
            card.turn(7, 21).is(2);
            card.holds(7, 9, 0, 21);
        });
        CASES.test("promise 5: the bits of the other sectors stay", card -> {
            card.storeMixed();
            card.store(14, 9, 1);
            card.turn(14, 2).is(2);
            card.trim(14).is(0);
            card.isMixed();
        });
        CASES.test("promise 5: each sector has its own count", card -> {
            card.fill(9);
            for (int sector = 0; sector < Card.SECTORS; sector++) {
                card.turn(sector, 4).is(1);
            }
        });
    }

    /** "or, if it is turned, turned back" */
    private static void turnedBack() {
        CASES.test("promise 5: 0 when the only turned bit is turned back", card -> {
            card.store(0, 9, 0);
            card.turn(0, 0).is(0);
            card.holds(0, 9);
        });
        CASES.test("promise 5: 1, not DAMAGED, when the first of two is turned back", card -> {
            card.store(15, 9, 0, 21);
            card.turn(15, 0).is(1);
            card.holds(15, 9, 21);
        });
        CASES.test("promise 5: 1, not DAMAGED, when the second of two is turned back", card -> {
            card.store(15, 9, 0, 21);
            card.turn(15, 21).is(1);
            card.holds(15, 9, 0);
        });
        CASES.test("promise 5: a bit turned back can be turned again", card -> {
            card.store(15, 9, 0, 21);
            card.turn(15, 21).is(1);
            card.turn(15, 21).is(2);
            card.holds(15, 9, 0, 21);
        });
        CASES.test("promise 5: turning back one bit makes room for another", card -> {
            card.store(15, 9, 0, 21);
            card.turn(15, 0).is(1);
            card.turn(15, 10).is(2);
            card.holds(15, 9, 10, 21);
        });
    }

    /** "BAD if sector is not from 0 to 15" */
    private static void turnBadSector() {
        for (int sector : SECTORS_TOO_SMALL) {
            CASES.test("promise 5: sector " + sector + " is too small", card -> turnIsBad(card, sector, 2));
        }
        for (int sector : SECTORS_TOO_LARGE) {
            CASES.test("promise 5: sector " + sector + " is too large", card -> turnIsBad(card, sector, 2));
        }
    }

    /** "or bit is not from 0 to 21" */
    private static void turnBadBit() {
        for (int bit : BITS_TOO_SMALL) {
            CASES.test("promise 5: bit " + bit + " is too small", card -> badBitOfEveryKind(card, bit));
        }
        for (int bit : BITS_TOO_LARGE) {
            CASES.test("promise 5: bit " + bit + " is too large", card -> badBitOfEveryKind(card, bit));
        }
    }

    private static void turnIsBad(Card card, int sector, int bit) {
        card.storeMixed();
        card.turn(sector, bit).is(BAD);
        card.isMixed();
    }

    private static void badBitOfEveryKind(Card card, int bit) {
        card.storeMixed();
        card.turn(1, bit).is(BAD);
        card.turn(2, bit).is(BAD);
        card.turn(15, bit).is(BAD);
        card.isMixed();
    }

    /** "EMPTY" */
    private static void turnEmpty() {
        CASES.test("promise 5: EMPTY, never written", card -> {
            card.turn(0, 0).is(EMPTY);
            card.turn(15, 21).is(EMPTY);
            card.isNew();
        });
        CASES.test("promise 5: EMPTY, trimmed with one bit turned", card -> {
            card.store(5, 9, 4);
            card.trim(5).is(0);
            card.turn(5, 4).is(EMPTY);
            card.turn(5, 5).is(EMPTY);
            card.isNew();
        });
        CASES.test("promise 5: EMPTY turns no bit of a later write", card -> {
            card.turn(5, 4).is(EMPTY);
            card.write(5, 9).is(0);
            card.holds(5, 9);
        });
    }

    /** "DAMAGED, and changes nothing, if two bits are turned and this one is not one of them" */
    private static void turnDamaged() {
        CASES.test("promise 5: DAMAGED for a third bit, below the two", card -> thirdBit(card, 10, 11, 0));
        CASES.test("promise 5: DAMAGED for a third bit, between the two", card -> thirdBit(card, 0, 21, 10));
        CASES.test("promise 5: DAMAGED for a third bit, above the two", card -> thirdBit(card, 10, 11, 21));
        CASES.test("promise 5: DAMAGED changes nothing in the other sectors", card -> {
            card.storeMixed();
            card.turn(0, 10).is(DAMAGED);
            card.isMixed();
        });
        CASES.test("promise 5: DAMAGED as often as it is tried", card -> {
            card.store(5, 9, 0, 21);
            for (int i = 0; i < 100; i++) {
                card.turn(5, 10).is(DAMAGED);
            }
            card.holds(5, 9, 0, 21);
        });
    }

    private static void thirdBit(Card card, int first, int second, int third) {
        card.store(5, 9, first, second);
        card.turn(5, third).is(DAMAGED);
        card.holds(5, 9, first, second);
        card.turn(5, first).is(1);
        card.turn(5, third).is(2);
        card.holds(5, 9, second, third);
    }

    /** "Answers as read." */
    private static void repairAnswers() {
        for (int sector : SECTORS_TOO_SMALL) {
            CASES.test("promise 6: sector " + sector + " is too small", card -> card.repair(sector).is(BAD));
        }
        for (int sector : SECTORS_TOO_LARGE) {
            CASES.test("promise 6: sector " + sector + " is too large", card -> card.repair(sector).is(BAD));
        }
        CASES.test("promise 6: EMPTY, never written", card -> {
            card.repair(0).is(EMPTY);
            card.repair(15).is(EMPTY);
        });
        CASES.test("promise 6: EMPTY, trimmed", card -> {
            card.store(5, 9, 0);
            card.trim(5).is(0);
            card.repair(5).is(EMPTY);
        });
        CASES.test("promise 6: DAMAGED with two bits turned", card -> {
            card.store(5, 9, 0, 21);
            card.repair(5).is(DAMAGED);
        });
        CASES.test("promise 6: the smallest value", card -> {
            card.store(0, 0, 0);
            card.repair(0).is(0);
        });
        CASES.test("promise 6: the largest value", card -> {
            card.store(15, 65535, 21);
            card.repair(15).is(65535);
        });
    }

    /** "if it is written and not DAMAGED, all its bits are turned back" */
    private static void repairTurnsBack() {
        CASES.test("promise 6: no bit turned, none is turned then", card -> {
            card.store(5, 9);
            card.repair(5).is(9);
            card.holds(5, 9);
        });
        CASES.test("promise 6: the first bit turned, none is turned then", card -> {
            card.store(5, 9, 0);
            card.repair(5).is(9);
            card.holds(5, 9);
        });
        CASES.test("promise 6: the last bit turned, none is turned then", card -> {
            card.store(5, 9, 21);
            card.repair(5).is(9);
            card.holds(5, 9);
        });
        CASES.test("promise 6: the value 0 with a bit turned, none is turned then", card -> {
            card.store(5, 0, 10);
            card.repair(5).is(0);
            card.holds(5, 0);
        });
        CASES.test("promise 6: a second repair finds nothing to do", card -> {
            card.store(5, 9, 10);
            card.repair(5).is(9);
            card.repair(5).is(9);
            card.holds(5, 9);
        });
        CASES.test("promise 6: one of two bits turned back, none is turned after the repair", card -> {
            card.store(5, 9, 0, 21);
            card.turn(5, 0).is(1);
            card.repair(5).is(9);
            card.holds(5, 9);
        });
        CASES.test("promise 6: the bits of the other sectors stay", card -> {
            card.storeMixed();
            card.repair(2).is(30);
            card.isMixed();
        });
    }

    private static void repairChangesNothing() {
        CASES.test("promise 6: DAMAGED, both bits stay turned", card -> {
            card.storeMixed();
            card.repair(0).is(DAMAGED);
            card.repair(0).is(DAMAGED);
            card.isMixed();
        });
        CASES.test("promise 6: EMPTY, nothing is written", card -> {
            card.repair(0).is(EMPTY);
            card.repair(15).is(EMPTY);
            card.isNew();
        });
        CASES.test("promise 6: BAD, nothing is changed", card -> {
            card.storeMixed();
            card.repair(-1).is(BAD);
            card.repair(16).is(BAD);
            card.isMixed();
        });
    }

    /** "BAD (for the bit as for the sector) is tested first, then EMPTY, then DAMAGED." */
    private static void orderOfTests() {
        CASES.test("promise 12: BAD sector and BAD bit, both too small", card -> turnIsBad(card, -1, -1));
        CASES.test("promise 12: BAD sector and BAD bit, both too large", card -> turnIsBad(card, 16, 22));
        CASES.test("promise 12: BAD for a bit too small before EMPTY", card -> {
            card.turn(0, -1).is(BAD);
            card.isNew();
        });
        CASES.test("promise 12: BAD for a bit too large before EMPTY", card -> {
            card.turn(15, 22).is(BAD);
            card.isNew();
        });
        CASES.test("promise 12: BAD for a bit before EMPTY after a trim", card -> turnIsBad(card, 3, 22));
        CASES.test("promise 12: BAD for a bit too small before DAMAGED", card -> turnIsBad(card, 0, -1));
        CASES.test("promise 12: BAD for a bit too large before DAMAGED", card -> turnIsBad(card, 0, 22));
        CASES.test("promise 12: EMPTY before DAMAGED", card -> {
            card.store(5, 9, 0, 21);
            card.trim(5).is(0);
            card.turn(5, 10).is(EMPTY);
            card.turn(5, 0).is(EMPTY);
        });
    }
}
