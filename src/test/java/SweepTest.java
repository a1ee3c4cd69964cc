/** What the document counts, gone through whole: every value, sector, bit, pair of bits and set of sectors. */
public final class SweepTest {
    private static final int SECTORS = 16;
    private static final int BITS = 22;
    private static final int LARGEST = 65535;
    private static final int ENOUGH_WRONG = 20;
    private static final Checks CHECKS = new Checks();

    public static void main(String[] args) {
        for (int value = 0; value <= LARGEST && CHECKS.wrong() < ENOUGH_WRONG; value++) {
            everyBitTurnedAlone(value % SECTORS, value);
            someSectorsWritten(value);
            someSectorsDamaged(value);
        }
        for (int pair = 0; pair < BITS * BITS && CHECKS.wrong() < ENOUGH_WRONG; pair++) {
            everyThirdBit(pair / BITS, pair % BITS);
        }
        for (int pair = 0; pair < SECTORS * SECTORS && CHECKS.wrong() < ENOUGH_WRONG; pair++) {
            oneSectorBesideAnother(pair / SECTORS, pair % SECTORS);
        }
        CHECKS.end();
    }

    /** Promises 2, 3, 5 and 6. */
    private static void everyBitTurnedAlone(int sector, int value) {
        CardFlash x = new CardFlash();
        String where = "value " + value + " in sector " + sector;
        CHECKS.due(where + ": write", x.write(sector, value), 0);
        for (int bit = 0; bit < BITS; bit++) {
            CHECKS.due(where + ": turn", x.turn(sector, bit), 1);
            CHECKS.due(where + ": read with a bit turned", x.read(sector), value);
            CHECKS.due(where + ": repair", x.repair(sector), value);
            CHECKS.due(where + ": turn after the repair", x.turn(sector, bit), 1);
            CHECKS.due(where + ": turn back", x.turn(sector, bit), 0);
        }
        CHECKS.due(where + ": read in the end", x.read(sector), value);
    }

    /** Promises 4, 9 and 11: all are written, and those that are not in the set are trimmed. */
    private static void someSectorsWritten(int set) {
        CardFlash x = new CardFlash();
        int sum = 0;
        for (int sector = 0; sector < SECTORS; sector++) {
            x.write(sector, LARGEST - sector);
        }
        for (int sector = 0; sector < SECTORS; sector++) {
            if (isIn(set, sector)) {
                sum += LARGEST - sector;
            } else {
                x.trim(sector);
            }
        }
        CHECKS.due("set " + set + " written: written", x.written(), Integer.bitCount(set));
        CHECKS.due("set " + set + " written: damaged", x.damaged(), 0);
        CHECKS.due("set " + set + " written: sum", x.sum(), sum);
    }

    /** Promises 9 to 11: all are written with one bit turned, and a second one is turned in the set. */
    private static void someSectorsDamaged(int set) {
        CardFlash x = new CardFlash();
        int sum = 0;
        for (int sector = 0; sector < SECTORS; sector++) {
            x.write(sector, LARGEST - sector);
            x.turn(sector, sector);
            if (isIn(set, sector)) {
                x.turn(sector, sector + 1);
            } else {
                sum += LARGEST - sector;
            }
        }
        CHECKS.due("set " + set + " damaged: written", x.written(), SECTORS);
        CHECKS.due("set " + set + " damaged: damaged", x.damaged(), Integer.bitCount(set));
        CHECKS.due("set " + set + " damaged: sum", x.sum(), sum);
    }

    private static boolean isIn(int set, int sector) {
        return (set >> sector & 1) == 1;
    }

    /** Promise 5. */
    private static void everyThirdBit(int first, int second) {
        if (first == second) {
            return;
        }
        String where = "bits " + first + " and " + second + ": ";
        CardFlash x = new CardFlash();
        x.write(2, 40000);
        CHECKS.due(where + "the first", x.turn(2, first), 1);
        CHECKS.due(where + "the second", x.turn(2, second), 2);
        for (int third = 0; third < BITS; third++) {
            if (third != first && third != second) {
                CHECKS.due(where + "and " + third, x.turn(2, third), CardFlash.DAMAGED);
            }
        }
        CHECKS.due(where + "read with two", x.read(2), CardFlash.DAMAGED);
        CHECKS.due(where + "the first back", x.turn(2, first), 1);
        CHECKS.due(where + "read with one", x.read(2), 40000);
        CHECKS.due(where + "the second back", x.turn(2, second), 0);
        CHECKS.due(where + "read with none", x.read(2), 40000);
    }

    /** Promises 2 to 6: no call on one sector changes another. */
    private static void oneSectorBesideAnother(int changed, int kept) {
        if (changed == kept) {
            return;
        }
        String where = "sector " + kept + " beside " + changed + ": ";
        CardFlash x = new CardFlash();
        x.write(changed, 1);
        CHECKS.due(where + "write does not write it", x.read(kept), CardFlash.EMPTY);
        x.write(kept, 2);
        x.turn(kept, 5);
        x.write(changed, 3);
        CHECKS.due(where + "write keeps its turned bit", x.turn(kept, 6), 2);
        x.turn(changed, 5);
        CHECKS.due(where + "turn does not turn it", x.read(kept), CardFlash.DAMAGED);
        x.turn(kept, 6);
        x.repair(changed);
        CHECKS.due(where + "repair keeps its turned bit", x.turn(kept, 5), 0);
        x.trim(changed);
        CHECKS.due(where + "trim does not trim it", x.read(kept), 2);
    }
}
