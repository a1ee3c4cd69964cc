/**
 * The boundary cases that promises 7 and 8 name: power and tidy change no answer of any later call,
 * whatever state they find; a test for each.
 */
public final class BoundaryPowerTidyTest {
    private static final int[] STEPS = {0, 1, 2, 100, Integer.MAX_VALUE, -1, -100, Integer.MIN_VALUE};
    private static final Cases CASES = new Cases();

    public static void main(String[] args) {
        inEachState("promise 7: power", Card::power);
        for (int steps : STEPS) {
            inEachState("promise 8: tidy(" + steps + ")", card -> card.tidy(steps));
        }
        inEachState("promises 7 and 8: power, tidy and power", card -> {
            card.power();
            card.tidy(1);
            card.power();
        });
        CASES.end();
    }

    private static void inEachState(String name, Cases.Body call) {
        whereLittleStands(name, call);
        whereAllIsWritten(name, call);
        whereBitsAreTurned(name, call);
        againAndAgain(name, call);
    }

    private static void whereLittleStands(String name, Cases.Body call) {
        CASES.test(name + " on a new object", card -> {
            call.on(card);
            card.isNew();
        });
        CASES.test(name + " when the last sector has been trimmed", card -> {
            card.store(6, 60, 1, 2);
            card.trim(6).is(0);
            call.on(card);
            card.isNew();
        });
        CASES.test(name + " right after a write over a write", card -> {
            card.store(6, 60);
            card.write(6, 61).is(0);
            call.on(card);
            card.holds(6, 61);
            card.counts(1, 0, 61);
        });
    }

    private static void whereAllIsWritten(String name, Cases.Body call) {
        CASES.test(name + " on a full card", card -> {
            card.fill(65535);
            call.on(card);
            for (int sector = 0; sector < Card.SECTORS; sector++) {
                card.holds(sector, 65535);
            }
            card.counts(16, 0, 16 * 65535);
        });
        CASES.test(name + " on a full card, each sector damaged", card -> {
            card.fill(65535);
            card.damageAll();
            call.on(card);
            for (int sector = 0; sector < Card.SECTORS; sector++) {
                card.holds(sector, 65535, 0, 21);
            }
            card.counts(16, 16, 0);
        });
    }

    private static void whereBitsAreTurned(String name, Cases.Body call) {
        CASES.test(name + " does not turn one bit back", card -> {
            card.store(6, 60, 21);
            call.on(card);
            card.holds(6, 60, 21);
        });
        CASES.test(name + " does not turn two bits back", card -> {
            card.store(6, 60, 0, 21);
            call.on(card);
            card.holds(6, 60, 0, 21);
        });
        CASES.test(name + " does not turn a repaired bit again", card -> {
            card.store(6, 60, 21);
            card.repair(6).is(60);
            call.on(card);
            card.holds(6, 60);
        });
        CASES.test(name + " keeps refusing a third bit", card -> {
            card.store(6, 60, 0, 21);
            call.on(card);
            card.turn(6, 10).is(CardFlash.DAMAGED);
            card.holds(6, 60, 0, 21);
        });
    }

    private static void againAndAgain(String name, Cases.Body call) {
        CASES.test(name + " after each change", card -> {
            card.storeMixed(() -> call.on(card));
            card.isMixed();
        });
        CASES.test(name + " a hundred times", card -> {
            card.storeMixed();
            for (int i = 0; i < 100; i++) {
                call.on(card);
            }
            card.isMixed();
        });
        CASES.test(name + " between refused calls", card -> {
            card.storeMixed();
            call.on(card);
            card.write(16, 1).is(CardFlash.BAD);
            call.on(card);
            card.turn(0, 10).is(CardFlash.DAMAGED);
            call.on(card);
            card.trim(3).is(CardFlash.EMPTY);
            call.on(card);
            card.isMixed();
        });
    }
}
