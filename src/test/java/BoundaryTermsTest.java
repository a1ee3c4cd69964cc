/** The boundary cases that 'What it is' and 'Terms' name, a test for each. */
public final class BoundaryTermsTest {
    private static final int BAD = CardFlash.BAD;
    private static final int EMPTY = CardFlash.EMPTY;
    private static final int DAMAGED = CardFlash.DAMAGED;
    private static final Cases CASES = new Cases();

    public static void main(String[] args) {
        lastCallOfEachKind();
        lastCallAfterMuchOfOneKind();
        sectors();
        writtenOrNot();
        values();
        bits();
        atMostTwoTurned();
        noneTurnedRightAfterWritten();
        reading();
        CASES.end();
    }

    /** "An object is used for at most 512 calls after it has been made" */
    private static void lastCallOfEachKind() {
        CASES.test("what it is: the 512th call, a write", card -> {
            writeUntilOneCallIsLeft(card);
            card.write(15, 1).is(0);
        });
        CASES.test("what it is: the 512th call, a read", card -> {
            writeUntilOneCallIsLeft(card);
            card.read(0).is(1000);
        });
        CASES.test("what it is: the 512th call, a trim", card -> {
            writeUntilOneCallIsLeft(card);
            card.trim(3).is(0);
        });
        CASES.test("what it is: the 512th call, a turn", card -> {
            writeUntilOneCallIsLeft(card);
            card.turn(7, 21).is(1);
        });
        CASES.test("what it is: the 512th call, a repair", card -> {
            writeUntilOneCallIsLeft(card);
            card.repair(15).is(1015);
        });
        CASES.test("what it is: the 512th call, written", card -> {
            writeUntilOneCallIsLeft(card);
            card.written().is(16);
        });
        CASES.test("what it is: the 512th call, damaged", card -> {
            writeUntilOneCallIsLeft(card);
            card.damaged().is(0);
        });
        CASES.test("what it is: the 512th call, sum", card -> {
            writeUntilOneCallIsLeft(card);
            card.sum().is(16 * 1000 + 120);
        });
    }

    private static void writeUntilOneCallIsLeft(Card card) {
        while (card.calls() < Card.MOST_CALLS - 1) {
            int sector = card.calls() % Card.SECTORS;
            card.write(sector, 1000 + sector).is(0);
        }
    }

    private static void lastCallAfterMuchOfOneKind() {
        CASES.test("what it is: the 512th call after 511 writes of one sector", card -> {
            while (card.calls() < Card.MOST_CALLS - 1) {
                card.write(9, card.calls() + 1).is(0);
            }
            card.read(9).is(511);
        });
        CASES.test("what it is: the 512th call after a sector was written and trimmed again and again", card -> {
            while (card.calls() < Card.MOST_CALLS - 2) {
                card.write(9, card.calls()).is(0);
                card.trim(9).is(0);
            }
            card.write(9, 65535).is(0);
            card.read(9).is(65535);
        });
        CASES.test("what it is: the 512th call after a bit was turned 510 times", card -> {
            card.write(9, 12345).is(0);
            for (int i = 0; i < 255; i++) {
                card.turn(9, 4).is(1);
                card.turn(9, 4).is(0);
            }
            card.turn(9, 5).is(1);
        });
        CASES.test("what it is: the 512th call after 510 cuts of the power", card -> {
            card.write(9, 12345).is(0);
            while (card.calls() < Card.MOST_CALLS - 1) {
                card.power();
            }
            card.read(9).is(12345);
        });
        CASES.test("what it is: the 512th call after 510 times tidy", card -> {
            card.write(9, 12345).is(0);
            while (card.calls() < Card.MOST_CALLS - 1) {
                card.tidy(card.calls());
            }
            card.read(9).is(12345);
        });
    }

    /** "SECTORS 0 to 15" */
    private static void sectors() {
        CASES.test("terms: 0 is the first sector", card -> oneSectorAlone(card, 0));
        CASES.test("terms: 15 is the last sector", card -> oneSectorAlone(card, 15));
        CASES.test("terms: -1 is no sector", card -> noSector(card, -1));
        CASES.test("terms: 16 is no sector", card -> noSector(card, 16));
        CASES.test("terms: all sixteen sectors hold their values at once", card -> {
            for (int sector = 0; sector < Card.SECTORS; sector++) {
                card.write(sector, 100 + sector).is(0);
            }
            for (int sector = 0; sector < Card.SECTORS; sector++) {
                card.read(sector).is(100 + sector);
            }
        });
    }

    private static void oneSectorAlone(Card card, int sector) {
        card.write(sector, 7).is(0);
        card.turn(sector, 2).is(1);
        card.repair(sector).is(7);
        card.holds(sector, 7);
        card.counts(1, 0, 7);
        card.trim(sector).is(0);
        card.isNew();
    }

    private static void noSector(Card card, int number) {
        card.storeMixed();
        card.write(number, 7).is(BAD);
        card.read(number).is(BAD);
        card.turn(number, 2).is(BAD);
        card.repair(number).is(BAD);
        card.trim(number).is(BAD);
        card.isMixed();
    }

    /** "are WRITTEN or not (none at the start)" */
    private static void writtenOrNot() {
        CASES.test("terms: none is written at the start", card -> {
            for (int sector = 0; sector < Card.SECTORS; sector++) {
                card.read(sector).is(EMPTY);
            }
        });
        CASES.test("terms: a sector is written, then not, then written", card -> {
            card.write(4, 8).is(0);
            card.holds(4, 8);
            card.trim(4).is(0);
            card.isEmpty(4);
            card.write(4, 9).is(0);
            card.holds(4, 9);
        });
    }

    /** "A written sector has a value from 0 to 65535" */
    private static void values() {
        CASES.test("terms: 0 is the smallest value", card -> {
            card.fill(0);
            everySectorHolds(card, 0);
        });
        CASES.test("terms: 65535 is the largest value", card -> {
            card.fill(65535);
            everySectorHolds(card, 65535);
        });
        CASES.test("terms: below 0 there is no value", card -> {
            card.fill(-1);
            everySectorHolds(card, 65535);
        });
        CASES.test("terms: above 65535 there is no value", card -> {
            card.fill(65536);
            everySectorHolds(card, 0);
        });
    }

    private static void everySectorHolds(Card card, int value) {
        for (int sector = 0; sector < Card.SECTORS; sector++) {
            card.holds(sector, value);
        }
        card.counts(Card.SECTORS, 0, Card.SECTORS * value);
    }

    /** "is stored in 22 BITS, numbered 0 to 21" */
    private static void bits() {
        CASES.test("terms: 0 is the first bit", card -> {
            card.store(8, 5, 0);
            card.holds(8, 5, 0);
        });
        CASES.test("terms: 21 is the last bit", card -> {
            card.store(8, 5, 21);
            card.holds(8, 5, 21);
        });
        CASES.test("terms: -1 is no bit", card -> {
            card.storeMixed();
            card.turn(2, -1).is(BAD);
            card.isMixed();
        });
        CASES.test("terms: 22 is no bit", card -> {
            card.storeMixed();
            card.turn(2, 22).is(BAD);
            card.isMixed();
        });
        CASES.test("terms: the 22 bits are 22 different ones", card -> {
            card.write(8, 5).is(0);
            for (int bit = 0; bit < Card.BITS; bit++) {
                int next = (bit + 1) % Card.BITS;
                card.turn(8, bit).is(1);
                card.turn(8, next).is(2);
                card.turn(8, bit).is(1);
                card.turn(8, next).is(0);
            }
        });
    }

    /** "some of which may be TURNED: at most two at a time" */
    private static void atMostTwoTurned() {
        CASES.test("terms: two bits may be turned at a time", card -> {
            card.store(8, 5, 20, 21);
            card.holds(8, 5, 20, 21);
        });
        CASES.test("terms: a third bit may not be turned", card -> {
            card.store(8, 5, 0, 1);
            for (int bit = 2; bit < Card.BITS; bit++) {
                card.turn(8, bit).is(DAMAGED);
            }
            card.holds(8, 5, 0, 1);
        });
        CASES.test("terms: two bits may be turned in every sector at once", card -> {
            card.fill(5);
            card.damageAll();
            for (int sector = 0; sector < Card.SECTORS; sector++) {
                card.holds(sector, 5, 0, 21);
            }
        });
        CASES.test("terms: the two turned bits may change one by one", card -> {
            card.store(8, 5, 0, 1);
            for (int bit = 2; bit < Card.BITS; bit++) {
                card.turn(8, bit - 2).is(1);
                card.turn(8, bit).is(2);
                card.read(8).is(DAMAGED);
            }
            card.holds(8, 5, 20, 21);
        });
    }

    /** "(none right after it is written)" */
    private static void noneTurnedRightAfterWritten() {
        CASES.test("terms: none is turned when written for the first time", card -> {
            card.write(8, 5).is(0);
            card.holds(8, 5);
        });
        CASES.test("terms: none is turned when written over one turned bit", card -> {
            card.store(8, 5, 21);
            card.write(8, 6).is(0);
            card.holds(8, 6);
        });
        CASES.test("terms: none is turned when written over two turned bits", card -> {
            card.store(8, 5, 0, 21);
            card.write(8, 6).is(0);
            card.holds(8, 6);
        });
        CASES.test("terms: none is turned when written after a trim with two turned bits", card -> {
            card.store(8, 5, 0, 21);
            card.trim(8).is(0);
            card.write(8, 6).is(0);
            card.holds(8, 6);
        });
    }

    /** "with no or one bit turned it gives the value; with two bits turned it gives DAMAGED" */
    private static void reading() {
        CASES.test("terms: reading with no bit turned gives the value", card -> {
            card.write(8, 4321).is(0);
            card.read(8).is(4321);
        });
        CASES.test("terms: reading with one bit turned, each of the 22, gives the value 0", card ->
                readWithEachBitTurned(card, 0));
        CASES.test("terms: reading with one bit turned, each of the 22, gives the value 65535", card ->
                readWithEachBitTurned(card, 65535));
        CASES.test("terms: reading with two bits turned gives DAMAGED, not the value 0", card -> {
            card.store(8, 0, 0, 21);
            card.read(8).is(DAMAGED);
        });
        CASES.test("terms: reading with two bits turned gives DAMAGED, not the value 65535", card -> {
            card.store(8, 65535, 20, 21);
            card.read(8).is(DAMAGED);
        });
        CASES.test("terms: reading with one of two bits turned back gives the value again", card -> {
            card.store(8, 4321, 0, 21);
            card.turn(8, 0).is(1);
            card.read(8).is(4321);
        });
    }

    private static void readWithEachBitTurned(Card card, int value) {
        card.write(8, value).is(0);
        for (int bit = 0; bit < Card.BITS; bit++) {
            card.turn(8, bit).is(1);
            card.read(8).is(value);
            card.turn(8, bit).is(0);
        }
    }
}
