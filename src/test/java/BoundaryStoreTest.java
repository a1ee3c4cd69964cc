/** The boundary cases that promises 1 to 4 name: a new object, write, read and trim; a test for each. */
public final class BoundaryStoreTest {
    private static final int BAD = CardFlash.BAD;
    private static final int EMPTY = CardFlash.EMPTY;
    private static final int DAMAGED = CardFlash.DAMAGED;
    private static final int[] TOO_SMALL = {-1, -2, -15, -16, -65536, Integer.MIN_VALUE};
    private static final int[] TOO_LARGE = {16, 17, 31, 32, 65536, Integer.MAX_VALUE};
    private static final Cases CASES = new Cases();

    public static void main(String[] args) {
        newObject();
        writeValue();
        writeNoneTurned();
        writeAnswers();
        writeRefused();
        readAnswers();
        readValueLikeAConstant();
        readChangesNothing();
        trimAnswers();
        trimWrittenNoLonger();
        trimRefused();
        CASES.end();
    }

    /** "No sector is written." */
    private static void newObject() {
        CASES.test("promise 1: a new object has no sector written", Card::isNew);
        CASES.test("promise 1: an object made after another was filled", card -> {
            card.fill(65535);
            card.damageAll();
            Card later = new Card();
            later.isNew();
            card.faults().addAll(later.faults());
        });
        CASES.test("promise 1: an object made before another was filled", card -> {
            Card later = new Card();
            later.fill(65535);
            later.damageAll();
            card.isNew();
            card.faults().addAll(later.faults());
        });
        CASES.test("promise 1: two objects used side by side are apart", card -> {
            Card other = new Card();
            other.store(0, 5);
            card.storeMixed();
            other.holds(0, 5);
            other.store(1, 6, 4, 5);
            card.isMixed();
            card.faults().addAll(other.faults());
        });
    }

    /** "The sector is written with value & 65535" */
    private static void writeValue() {
        writeKeeps("the smallest value", 0, 0);
        writeKeeps("the largest value", 65535, 65535);
        writeKeeps("one too large wraps to 0", 65536, 0);
        writeKeeps("two too large wraps to 1", 65537, 1);
        writeKeeps("twice too large wraps to 65535", 131071, 65535);
        writeKeeps("the largest int", Integer.MAX_VALUE, 65535);
        writeKeeps("one too small wraps to 65535", -1, 65535);
        writeKeeps("65535 too small wraps to 1", -65535, 1);
        writeKeeps("65536 too small wraps to 0", -65536, 0);
        writeKeeps("the smallest int", Integer.MIN_VALUE, 0);
        CASES.test("promise 2: a value over another leaves nothing of it", card -> {
            card.store(5, 65535);
            card.write(5, 0).is(0);
            card.holds(5, 0);
            card.write(5, 21845).is(0);
            card.holds(5, 21845);
            card.counts(1, 0, 21845);
        });
    }

    private static void writeKeeps(String what, int value, int kept) {
        CASES.test("promise 2: value " + value + ", " + what, card -> {
            card.write(0, value).is(0);
            card.write(15, value).is(0);
            card.holds(0, kept);
            card.holds(15, kept);
            card.counts(2, 0, 2 * kept);
        });
    }

    /** "and none of its bits is turned" */
    private static void writeNoneTurned() {
        CASES.test("promise 2: written over no turned bit", card -> {
            card.store(5, 100);
            card.write(5, 101).is(0);
            card.holds(5, 101);
        });
        CASES.test("promise 2: written over one turned bit", card -> {
            card.store(5, 100, 0);
            card.write(5, 101).is(0);
            card.holds(5, 101);
        });
        CASES.test("promise 2: written over two turned bits", card -> {
            card.store(5, 100, 1, 21);
            card.write(5, 101).is(0);
            card.holds(5, 101);
        });
        CASES.test("promise 2: the same value written over two turned bits", card -> {
            card.store(5, 100, 1, 21);
            card.write(5, 100).is(0);
            card.holds(5, 100);
        });
        CASES.test("promise 2: the turned bits of the other sectors stay", card -> {
            card.storeMixed();
            card.write(3, 1).is(0);
            card.trim(3).is(0);
            card.isMixed();
        });
    }

    /** "Answers 0" */
    private static void writeAnswers() {
        CASES.test("promise 2: 0 for the first sector, not written", card -> card.write(0, 9).is(0));
        CASES.test("promise 2: 0 for the last sector, not written", card -> card.write(15, 9).is(0));
        CASES.test("promise 2: 0 for a written sector", card -> {
            card.store(0, 9);
            card.write(0, 9).is(0);
        });
        CASES.test("promise 2: 0 for a damaged sector", card -> {
            card.store(15, 9, 2, 3);
            card.write(15, 9).is(0);
        });
        CASES.test("promise 2: 0 for every sector when all are written", card -> {
            card.fill(1);
            card.fill(2);
            card.counts(16, 0, 32);
        });
    }

    /** "BAD if sector is not from 0 to 15" */
    private static void writeRefused() {
        for (int sector : TOO_SMALL) {
            CASES.test("promise 2: sector " + sector + " is too small", card -> writeIsRefused(card, sector));
        }
        for (int sector : TOO_LARGE) {
            CASES.test("promise 2: sector " + sector + " is too large", card -> writeIsRefused(card, sector));
        }
        CASES.test("promise 2: refused on a new object", card -> {
            card.write(-1, 9).is(BAD);
            card.write(16, 9).is(BAD);
            card.isNew();
        });
    }

    private static void writeIsRefused(Card card, int sector) {
        card.storeMixed();
        card.write(sector, 9).is(BAD);
        card.isMixed();
    }

    /** "Answers BAD; EMPTY if it is not written; DAMAGED; else the value." */
    private static void readAnswers() {
        for (int sector : TOO_SMALL) {
            CASES.test("promise 3: sector " + sector + " is too small", card -> card.read(sector).is(BAD));
        }
        for (int sector : TOO_LARGE) {
            CASES.test("promise 3: sector " + sector + " is too large", card -> card.read(sector).is(BAD));
        }
        CASES.test("promise 3: BAD though all sectors are damaged", card -> {
            card.fill(9);
            card.damageAll();
            card.read(-1).is(BAD);
            card.read(16).is(BAD);
        });
        CASES.test("promise 3: EMPTY, never written", card -> {
            card.read(0).is(EMPTY);
            card.read(15).is(EMPTY);
        });
        CASES.test("promise 3: EMPTY beside written sectors", card -> {
            card.store(6, 1);
            card.store(8, 2);
            card.read(7).is(EMPTY);
        });
        CASES.test("promise 3: EMPTY, not DAMAGED, after the trim of a damaged sector", card -> {
            card.store(0, 9, 4, 5);
            card.trim(0).is(0);
            card.read(0).is(EMPTY);
        });
        CASES.test("promise 3: DAMAGED with two bits turned", card -> {
            card.store(0, 9, 0, 21);
            card.read(0).is(DAMAGED);
        });
        CASES.test("promise 3: the value with one bit turned", card -> {
            card.store(15, 9, 21);
            card.read(15).is(9);
        });
        CASES.test("promise 3: the value with no bit turned", card -> {
            card.store(15, 9);
            card.read(15).is(9);
        });
    }

    private static void readValueLikeAConstant() {
        CASES.test("promise 3: the value 0 is not EMPTY", card -> {
            card.store(0, 0);
            card.read(0).is(0);
        });
        CASES.test("promise 3: the value written as BAD is 65535", card -> {
            card.store(0, BAD);
            card.read(0).is(65535);
        });
        CASES.test("promise 3: the value written as EMPTY is 65534", card -> {
            card.store(0, EMPTY);
            card.read(0).is(65534);
        });
        CASES.test("promise 3: the value written as DAMAGED is 65533", card -> {
            card.store(0, DAMAGED);
            card.read(0).is(65533);
        });
    }

    /** "Nothing is changed." */
    private static void readChangesNothing() {
        CASES.test("promise 3: nothing is changed, BAD", card -> {
            card.storeMixed();
            card.read(-1).is(BAD);
            card.read(16).is(BAD);
            card.isMixed();
        });
        CASES.test("promise 3: nothing is changed, EMPTY on a new object", card -> {
            card.read(0).is(EMPTY);
            card.isNew();
        });
        CASES.test("promise 3: nothing is changed, EMPTY after a trim", card -> {
            card.storeMixed();
            card.read(3).is(EMPTY);
            card.isMixed();
        });
        CASES.test("promise 3: nothing is changed, DAMAGED", card -> {
            card.storeMixed();
            card.read(0).is(DAMAGED);
            card.read(0).is(DAMAGED);
            card.isMixed();
        });
        CASES.test("promise 3: nothing is changed, one bit turned", card -> {
            card.storeMixed();
            card.read(1).is(20);
            card.read(1).is(20);
            card.isMixed();
        });
        CASES.test("promise 3: nothing is changed, no bit turned", card -> {
            card.storeMixed();
            card.read(2).is(30);
            card.read(2).is(30);
            card.isMixed();
        });
    }

    /** "Answers 0; BAD; EMPTY if it was not written." */
    private static void trimAnswers() {
        CASES.test("promise 4: 0 for the first sector", card -> {
            card.store(0, 9);
            card.trim(0).is(0);
        });
        CASES.test("promise 4: 0 for the last sector", card -> {
            card.store(15, 9);
            card.trim(15).is(0);
        });
        CASES.test("promise 4: 0 for the value 0", card -> {
            card.store(5, 0);
            card.trim(5).is(0);
        });
        CASES.test("promise 4: 0 with one bit turned", card -> {
            card.store(5, 9, 0);
            card.trim(5).is(0);
        });
        CASES.test("promise 4: 0, not DAMAGED, with two bits turned", card -> {
            card.store(5, 9, 0, 21);
            card.trim(5).is(0);
        });
        for (int sector : TOO_SMALL) {
            CASES.test("promise 4: sector " + sector + " is too small", card -> card.trim(sector).is(BAD));
        }
        for (int sector : TOO_LARGE) {
            CASES.test("promise 4: sector " + sector + " is too large", card -> card.trim(sector).is(BAD));
        }
        CASES.test("promise 4: EMPTY, never written", card -> {
            card.trim(0).is(EMPTY);
            card.trim(15).is(EMPTY);
        });
        CASES.test("promise 4: EMPTY, trimmed before", card -> {
            card.store(5, 9);
            card.trim(5).is(0);
            card.trim(5).is(EMPTY);
            card.trim(5).is(EMPTY);
        });
    }

    /** "The sector is written no longer." */
    private static void trimWrittenNoLonger() {
        CASES.test("promise 4: the only written sector", card -> {
            card.store(5, 9);
            card.trim(5).is(0);
            card.isNew();
        });
        CASES.test("promise 4: one sector of a full card", card -> {
            card.fill(9);
            card.trim(5).is(0);
            card.isEmpty(5);
            card.counts(15, 0, 15 * 9);
        });
        CASES.test("promise 4: every sector of a full card", card -> {
            card.fill(9);
            card.damageAll();
            for (int sector = 0; sector < Card.SECTORS; sector++) {
                card.trim(sector).is(0);
            }
            card.isNew();
        });
        CASES.test("promise 4: neither value nor turned bits come back", card -> {
            card.store(5, 9, 0, 21);
            card.trim(5).is(0);
            card.write(5, 10).is(0);
            card.holds(5, 10);
        });
        CASES.test("promise 4: the other sectors stay", card -> {
            card.storeMixed();
            card.store(14, 9, 1);
            card.trim(14).is(0);
            card.isMixed();
        });
    }

    private static void trimRefused() {
        CASES.test("promise 4: BAD changes nothing", card -> {
            card.storeMixed();
            card.trim(-1).is(BAD);
            card.trim(16).is(BAD);
            card.isMixed();
        });
        CASES.test("promise 4: EMPTY changes nothing", card -> {
            card.storeMixed();
            card.trim(3).is(EMPTY);
            card.trim(14).is(EMPTY);
            card.isMixed();
        });
    }
}
