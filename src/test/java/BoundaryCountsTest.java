/** The boundary cases that promises 9 to 11 name: written, damaged and sum; a test for each. */
public final class BoundaryCountsTest {
    private static final int BAD = CardFlash.BAD;
    private static final int EMPTY = CardFlash.EMPTY;
    private static final int DAMAGED = CardFlash.DAMAGED;
    private static final Cases CASES = new Cases();

    public static void main(String[] args) {
        writtenFromNoneToAll();
        writtenCountsSectors();
        writtenAfterRefusedCalls();
        damagedFromNoneToAll();
        damagedNoLonger();
        damagedAfterRefusedCalls();
        sumFromNoneToAll();
        sumOfWhatCanBeRead();
        sumAfterRefusedCalls();
        CASES.end();
    }

    /** "How many sectors are written." */
    private static void writtenFromNoneToAll() {
        CASES.test("promise 9: 0 on a new object", card -> card.written().is(0));
        CASES.test("promise 9: 1 for the first sector alone", card -> {
            card.store(0, 9);
            card.written().is(1);
        });
        CASES.test("promise 9: 1 for the last sector alone", card -> {
            card.store(15, 9);
            card.written().is(1);
        });
        CASES.test("promise 9: 16 on a full card, one by one", card -> {
            for (int sector = 0; sector < Card.SECTORS; sector++) {
                card.write(sector, 9).is(0);
                card.written().is(sector + 1);
            }
        });
        CASES.test("promise 9: 0 when a full card is trimmed, one by one", card -> {
            card.fill(9);
            for (int sector = 0; sector < Card.SECTORS; sector++) {
                card.trim(sector).is(0);
                card.written().is(15 - sector);
            }
        });
    }

    private static void writtenCountsSectors() {
        CASES.test("promise 9: a sector written twice counts once", card -> {
            card.store(5, 9);
            card.store(5, 10);
            card.written().is(1);
        });
        CASES.test("promise 9: a full card written twice counts 16", card -> {
            card.fill(9);
            card.fill(10);
            card.written().is(16);
        });
        CASES.test("promise 9: the value 0 counts", card -> {
            card.store(5, 0);
            card.written().is(1);
        });
        CASES.test("promise 9: a damaged sector counts", card -> {
            card.fill(9);
            card.damageAll();
            card.written().is(16);
        });
    }

    private static void writtenAfterRefusedCalls() {
        CASES.test("promise 9: a refused write does not count", card -> {
            card.write(-1, 9).is(BAD);
            card.write(16, 9).is(BAD);
            card.written().is(0);
        });
        CASES.test("promise 9: a refused trim takes nothing away", card -> {
            card.store(5, 9);
            card.trim(4).is(EMPTY);
            card.trim(16).is(BAD);
            card.written().is(1);
        });
        CASES.test("promise 9: read, turn and repair of a sector not written do not count", card -> {
            card.read(5).is(EMPTY);
            card.turn(5, 0).is(EMPTY);
            card.repair(5).is(EMPTY);
            card.written().is(0);
        });
    }

    /** "How many written sectors are DAMAGED." */
    private static void damagedFromNoneToAll() {
        CASES.test("promise 10: 0 on a new object", card -> card.damaged().is(0));
        CASES.test("promise 10: 0 with no bit turned", card -> {
            card.fill(9);
            card.damaged().is(0);
        });
        CASES.test("promise 10: 0 with one bit turned in every sector", card -> {
            for (int sector = 0; sector < Card.SECTORS; sector++) {
                card.store(sector, 9, sector);
            }
            card.damaged().is(0);
        });
        CASES.test("promise 10: 1 for the first sector alone", card -> {
            card.store(0, 9, 0, 1);
            card.damaged().is(1);
        });
        CASES.test("promise 10: 1 for the last sector alone", card -> {
            card.store(15, 9, 20, 21);
            card.damaged().is(1);
        });
        CASES.test("promise 10: 16 on a full card, one by one", card -> {
            for (int sector = 0; sector < Card.SECTORS; sector++) {
                card.store(sector, 9, 0, 21);
                card.damaged().is(sector + 1);
            }
        });
    }

    private static void damagedNoLonger() {
        CASES.test("promise 10: not when a bit is turned back", card -> {
            card.store(5, 9, 0, 21);
            card.turn(5, 0).is(1);
            card.damaged().is(0);
        });
        CASES.test("promise 10: not when written over", card -> {
            card.store(5, 9, 0, 21);
            card.write(5, 9).is(0);
            card.damaged().is(0);
        });
        CASES.test("promise 10: not when trimmed", card -> {
            card.store(5, 9, 0, 21);
            card.trim(5).is(0);
            card.damaged().is(0);
        });
        CASES.test("promise 10: not when written after a trim", card -> {
            card.store(5, 9, 0, 21);
            card.trim(5).is(0);
            card.write(5, 9).is(0);
            card.damaged().is(0);
        });
    }

    private static void damagedAfterRefusedCalls() {
        CASES.test("promise 10: still when a third bit is refused", card -> {
            card.store(5, 9, 0, 21);
            card.turn(5, 10).is(DAMAGED);
            card.damaged().is(1);
        });
        CASES.test("promise 10: still when the repair answers DAMAGED", card -> {
            card.store(5, 9, 0, 21);
            card.repair(5).is(DAMAGED);
            card.damaged().is(1);
        });
        CASES.test("promise 10: still when a BAD bit is refused", card -> {
            card.store(5, 9, 0, 21);
            card.turn(5, 22).is(BAD);
            card.turn(5, -1).is(BAD);
            card.damaged().is(1);
        });
    }

    /** "The sum of the values of all written sectors that are not DAMAGED." */
    private static void sumFromNoneToAll() {
        CASES.test("promise 11: 0 on a new object", card -> card.sum().is(0));
        CASES.test("promise 11: 0 for sixteen times the value 0", card -> {
            card.fill(0);
            card.sum().is(0);
        });
        CASES.test("promise 11: the first sector alone", card -> {
            card.store(0, 9);
            card.sum().is(9);
        });
        CASES.test("promise 11: the last sector alone", card -> {
            card.store(15, 9);
            card.sum().is(9);
        });
        CASES.test("promise 11: two values whose sum is above 65535 do not wrap", card -> {
            card.store(0, 65535);
            card.store(15, 1);
            card.sum().is(65536);
        });
        CASES.test("promise 11: the largest sum, sixteen times 65535", card -> {
            card.fill(65535);
            card.sum().is(1048560);
        });
        CASES.test("promise 11: values too large and too small are summed as they are kept", card -> {
            card.store(0, 65537);
            card.store(1, -1);
            card.sum().is(65536);
        });
    }

    private static void sumOfWhatCanBeRead() {
        CASES.test("promise 11: one bit turned, each of the 22, and the value counts", card -> {
            card.store(4, 1000);
            card.store(5, 9);
            for (int bit = 0; bit < Card.BITS; bit++) {
                card.turn(5, bit).is(1);
                card.sum().is(1009);
                card.turn(5, bit).is(0);
            }
        });
        CASES.test("promise 11: a damaged sector does not count", card -> {
            card.store(4, 1000);
            card.store(5, 9, 0, 21);
            card.sum().is(1000);
        });
        CASES.test("promise 11: 0 when every sector is damaged", card -> {
            card.fill(65535);
            card.damageAll();
            card.sum().is(0);
        });
        CASES.test("promise 11: the value counts again when a bit is turned back", card -> {
            card.store(5, 9, 0, 21);
            card.turn(5, 21).is(1);
            card.sum().is(9);
        });
        CASES.test("promise 11: a trimmed sector does not count", card -> {
            card.store(4, 1000);
            card.store(5, 9);
            card.trim(5).is(0);
            card.sum().is(1000);
        });
        CASES.test("promise 11: of a sector written twice the second value alone counts", card -> {
            card.store(5, 1000);
            card.store(5, 9);
            card.sum().is(9);
        });
    }

    private static void sumAfterRefusedCalls() {
        CASES.test("promise 11: a refused write does not count", card -> {
            card.store(5, 9);
            card.write(-1, 1000).is(BAD);
            card.write(16, 1000).is(BAD);
            card.sum().is(9);
        });
        CASES.test("promise 11: a refused third bit changes nothing", card -> {
            card.store(4, 1000);
            card.store(5, 9, 0, 21);
            card.turn(5, 10).is(DAMAGED);
            card.sum().is(1000);
        });
    }
}
