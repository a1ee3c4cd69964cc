/**
 * Sixteen sectors of 16-bit values, each stored in 22 bits of which up to two may be turned.
 *
 * Turned bits are kept beside the value, not in it: with two bits turned, turn must still know
 * which two they are, and no 22-bit code word alone could tell.
 */
public final class CardFlash {
    public static final int BAD = -1;
    public static final int EMPTY = -2;
    public static final int DAMAGED = -3;

    private static final int SECTORS = 16;
    private static final int BITS = 22;
    private static final int VALUE_MASK = 65535;
    private static final int MOST_TURNED = 2;

    private final boolean[] inUse = new boolean[SECTORS];
    private final int[] values = new int[SECTORS];
    /** For each sector a set of bits: bit b is 1 while bit b of the sector is turned. */
    private final int[] turnedBits = new int[SECTORS];

    public CardFlash() {
    }

    public int write(int sector, int value) {
        if (!isSector(sector)) {
            return BAD;
        }
        inUse[sector] = true;
        values[sector] = value & VALUE_MASK;
        turnedBits[sector] = 0;
        return 0;
    }

    public int read(int sector) {
        if (!isSector(sector)) {
            return BAD;
        }
        if (!inUse[sector]) {
            return EMPTY;
        }
        if (countTurned(sector) == MOST_TURNED) {
            return DAMAGED;
        }
        return values[sector];
    }

    public int trim(int sector) {
        if (!isSector(sector)) {
            return BAD;
        }
        if (!inUse[sector]) {
            return EMPTY;
        }
        inUse[sector] = false;
        return 0;
    }

    public int turn(int sector, int bit) {
        if (!isSector(sector) || !isBit(bit)) {
            return BAD;
        }
        if (!inUse[sector]) {
            return EMPTY;
        }
        int chosen = 1 << bit;
        boolean turnsBack = (turnedBits[sector] & chosen) != 0;
        if (countTurned(sector) == MOST_TURNED && !turnsBack) {
            return DAMAGED;
        }
        turnedBits[sector] ^= chosen;
        return countTurned(sector);
    }

    public int repair(int sector) {
        int answer = read(sector);
        if (isValue(answer)) {
            turnedBits[sector] = 0;
        }
        return answer;
    }

    public void power() {
        // Every call is complete when it answers, so a cut between two calls finds nothing half done.
    }

    public void tidy(int steps) {
        // Writing over a sector leaves no old copy behind, so there is never something to do.
    }

    public int written() {
        int count = 0;
        for (int sector = 0; sector < SECTORS; sector++) {
            if (inUse[sector]) {
                count++;
            }
        }
        return count;
    }

    public int damaged() {
        int count = 0;
        for (int sector = 0; sector < SECTORS; sector++) {
            if (read(sector) == DAMAGED) {
                count++;
            }
        }
        return count;
    }

    public int sum() {
        int total = 0;
        for (int sector = 0; sector < SECTORS; sector++) {
            int answer = read(sector);
            if (isValue(answer)) {
                total += answer;
            }
        }
        return total;
    }

    private static boolean isSector(int number) {
        return number >= 0 && number < SECTORS;
    }

    private static boolean isBit(int number) {
        return number >= 0 && number < BITS;
    }

    /** BAD, EMPTY and DAMAGED are all below 0, so the sign alone tells a value from them. */
    private static boolean isValue(int answer) {
        return answer >= 0;
    }

    private int countTurned(int sector) {
        int count = 0;
        for (int bit = 0; bit < BITS; bit++) {
            count += (turnedBits[sector] >> bit) & 1;
        }
        return count;
    }
}
