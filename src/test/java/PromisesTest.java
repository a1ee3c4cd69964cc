/** Every promise of the document by its number: ordinary inputs, the edges and wrong inputs. */
public final class PromisesTest {
    private static final Checks CHECKS = new Checks();
    private static final int SECTORS = 16;
    private static final int BITS = 22;
    private static final int[] NOT_SECTORS = {-1, 16, 17, -16, 32, Integer.MIN_VALUE, Integer.MAX_VALUE};
    private static final int[] NOT_BITS = {-1, 22, 23, 31, 32, -32, Integer.MIN_VALUE, Integer.MAX_VALUE};

    public static void main(String[] args) {
        promise1NewObject();
        promise2Write();
        promise2WriteMasksTheValue();
        promise2WriteTurnsBitsBack();
        promise3Read();
        promise3ReadChangesNothing();
        promise3EveryValueWithEveryOneBitTurned();
        promise4Trim();
        promise4WriteAfterTrim();
        promise5TurnEveryBit();
        promise5TurnEveryPair();
        promise5RefusedTurnChangesNothing();
        promise6Repair();
        promise6RepairOfOthers();
        promise7And8PowerAndTidy();
        promise7And8NotWrittenStaysSo();
        promise9Written();
        promise10Damaged();
        promise11Sum();
        promise12OrderOfTests();
        wrongSectorsChangeNothing();
        objectsAreApart();
        CHECKS.end();
    }

    private static void promise1NewObject() {
        CardFlash x = new CardFlash();
        for (int sector = 0; sector < SECTORS; sector++) {
            CHECKS.due("1: read(" + sector + ")", x.read(sector), CardFlash.EMPTY);
        }
        allCounts("1", x, 0, 0, 0);
    }

    private static void promise2Write() {
        CardFlash x = new CardFlash();
        for (int sector = 0; sector < SECTORS; sector++) {
            CHECKS.due("2: write(" + sector + ")", x.write(sector, 1000 + sector), 0);
        }
        for (int sector = 0; sector < SECTORS; sector++) {
            CHECKS.due("2: read(" + sector + ")", x.read(sector), 1000 + sector);
        }
        CHECKS.due("2: write again", x.write(7, 5), 0);
        CHECKS.due("2: the new value", x.read(7), 5);
        CHECKS.due("2: the neighbour below", x.read(6), 1006);
        CHECKS.due("2: the neighbour above", x.read(8), 1008);
    }

    private static void promise2WriteMasksTheValue() {
        int[] values = {0, 1, 65535, 65536, 65537, 70000, -1, -65536, -65535, Integer.MAX_VALUE, Integer.MIN_VALUE};
        int[] kept = {0, 1, 65535, 0, 1, 4464, 65535, 0, 1, 65535, 0};
        CardFlash x = new CardFlash();
        for (int i = 0; i < values.length; i++) {
            CHECKS.due("2: write(15, " + values[i] + ")", x.write(15, values[i]), 0);
            CHECKS.due("2: read(15) after " + values[i], x.read(15), kept[i]);
        }
    }

    private static void promise2WriteTurnsBitsBack() {
        CardFlash x = damagedSector(4, 77, 3, 9);
        CHECKS.due("2: write over the damaged", x.write(4, 78), 0);
        CHECKS.due("2: read(4)", x.read(4), 78);
        CHECKS.due("2: none was turned", x.turn(4, 5), 1);
        CHECKS.due("2: bit 3 was turned back", x.turn(4, 3), 2);
        x.write(4, 79);
        CHECKS.due("2: bit 3 is turned anew", x.turn(4, 3), 1);
    }

    private static void promise3Read() {
        CardFlash x = new CardFlash();
        for (int sector : NOT_SECTORS) {
            CHECKS.due("3: read(" + sector + ")", x.read(sector), CardFlash.BAD);
        }
        CHECKS.due("3: not written", x.read(0), CardFlash.EMPTY);
        x.write(0, 0);
        CHECKS.due("3: the value 0", x.read(0), 0);
        x.turn(0, 21);
        CHECKS.due("3: one bit turned", x.read(0), 0);
        x.turn(0, 0);
        CHECKS.due("3: two bits turned", x.read(0), CardFlash.DAMAGED);
        x.turn(0, 21);
        CHECKS.due("3: one turned back", x.read(0), 0);
    }

    private static void promise3ReadChangesNothing() {
        CardFlash x = new CardFlash();
        x.read(1);
        CHECKS.due("3: reading writes nothing", x.written(), 0);
        x.write(1, 300);
        x.turn(1, 2);
        x.read(1);
        CHECKS.due("3: reading does not repair one bit", x.turn(1, 3), 2);
        x.read(1);
        CHECKS.due("3: reading does not repair two bits", x.read(1), CardFlash.DAMAGED);
        CHECKS.due("3: the second bit is still turned", x.turn(1, 3), 1);
        CHECKS.due("3: the first bit is still turned", x.turn(1, 2), 0);
    }

    private static void promise3EveryValueWithEveryOneBitTurned() {
        for (int value = 0; value <= 65535; value++) {
            CardFlash x = new CardFlash();
            int sector = value % SECTORS;
            x.write(sector, value);
            for (int bit = 0; bit < BITS; bit++) {
                x.turn(sector, bit);
                CHECKS.due("3: value " + value + " with bit " + bit + " turned", x.read(sector), value);
                x.turn(sector, bit);
            }
            CHECKS.due("3: value " + value + " with every bit turned back", x.read(sector), value);
        }
    }

    private static void promise4Trim() {
        CardFlash x = new CardFlash();
        for (int sector : NOT_SECTORS) {
            CHECKS.due("4: trim(" + sector + ")", x.trim(sector), CardFlash.BAD);
        }
        for (int sector = 0; sector < SECTORS; sector++) {
            CHECKS.due("4: trim of one not written", x.trim(sector), CardFlash.EMPTY);
            x.write(sector, sector);
        }
        for (int sector = 0; sector < SECTORS; sector++) {
            CHECKS.due("4: trim(" + sector + ")", x.trim(sector), 0);
            CHECKS.due("4: read(" + sector + ")", x.read(sector), CardFlash.EMPTY);
            CHECKS.due("4: trim(" + sector + ") again", x.trim(sector), CardFlash.EMPTY);
            CHECKS.due("4: written()", x.written(), SECTORS - 1 - sector);
        }
    }

    private static void promise4WriteAfterTrim() {
        CardFlash x = damagedSector(9, 500, 0, 21);
        CHECKS.due("4: trim of the damaged", x.trim(9), 0);
        allCounts("4: after trim of the damaged", x, 0, 0, 0);
        CHECKS.due("4: turn after trim", x.turn(9, 0), CardFlash.EMPTY);
        CHECKS.due("4: repair after trim", x.repair(9), CardFlash.EMPTY);
        x.write(9, 501);
        CHECKS.due("4: the sector written anew", x.read(9), 501);
        CHECKS.due("4: with no bit turned", x.turn(9, 0), 1);
    }

    private static void promise5TurnEveryBit() {
        for (int sector = 0; sector < SECTORS; sector++) {
            CardFlash x = new CardFlash();
            x.write(sector, 12345);
            for (int bit = 0; bit < BITS; bit++) {
                CHECKS.due("5: turn(" + sector + ", " + bit + ")", x.turn(sector, bit), 1);
                CHECKS.due("5: turn(" + sector + ", " + bit + ") back", x.turn(sector, bit), 0);
            }
            for (int bit : NOT_BITS) {
                CHECKS.due("5: turn(" + sector + ", " + bit + ")", x.turn(sector, bit), CardFlash.BAD);
            }
            for (int wrong : NOT_SECTORS) {
                CHECKS.due("5: turn(" + wrong + ", 0)", x.turn(wrong, 0), CardFlash.BAD);
            }
            CHECKS.due("5: nothing is left turned", x.turn(sector, 0), 1);
        }
    }

    private static void promise5TurnEveryPair() {
        for (int first = 0; first < BITS; first++) {
            for (int second = 0; second < BITS; second++) {
                if (first != second) {
                    turnPair(first, second);
                }
            }
        }
    }

    private static void turnPair(int first, int second) {
        String pair = "5: bits " + first + " and " + second + ": ";
        CardFlash x = new CardFlash();
        x.write(2, 40000);
        CHECKS.due(pair + "the first", x.turn(2, first), 1);
        CHECKS.due(pair + "the second", x.turn(2, second), 2);
        CHECKS.due(pair + "read", x.read(2), CardFlash.DAMAGED);
        for (int third = 0; third < BITS; third++) {
            if (third != first && third != second) {
                CHECKS.due(pair + "and " + third, x.turn(2, third), CardFlash.DAMAGED);
            }
        }
        CHECKS.due(pair + "the first back", x.turn(2, first), 1);
        CHECKS.due(pair + "read with one", x.read(2), 40000);
        CHECKS.due(pair + "the second back", x.turn(2, second), 0);
        CHECKS.due(pair + "read with none", x.read(2), 40000);
    }

    private static void promise5RefusedTurnChangesNothing() {
        CardFlash x = damagedSector(0, 9, 4, 5);
        CHECKS.due("5: a third bit", x.turn(0, 6), CardFlash.DAMAGED);
        CHECKS.due("5: the third bit again", x.turn(0, 6), CardFlash.DAMAGED);
        CHECKS.due("5: still damaged", x.read(0), CardFlash.DAMAGED);
        CHECKS.due("5: bit 4 back", x.turn(0, 4), 1);
        CHECKS.due("5: the third bit was not turned", x.turn(0, 6), 2);
        CHECKS.due("5: bit 5 back", x.turn(0, 5), 1);
        CHECKS.due("5: the third bit back", x.turn(0, 6), 0);
    }

    private static void promise6Repair() {
        CardFlash x = new CardFlash();
        for (int sector : NOT_SECTORS) {
            CHECKS.due("6: repair(" + sector + ")", x.repair(sector), CardFlash.BAD);
        }
        CHECKS.due("6: not written", x.repair(3), CardFlash.EMPTY);
        CHECKS.due("6: repair writes nothing", x.written(), 0);
        x.write(3, 0);
        CHECKS.due("6: the value 0, none turned", x.repair(3), 0);
        x.turn(3, 11);
        CHECKS.due("6: the value 0, one turned", x.repair(3), 0);
        CHECKS.due("6: bit 11 was turned back", x.turn(3, 11), 1);
        x.write(3, 65535);
        x.turn(3, 21);
        CHECKS.due("6: the value 65535, one turned", x.repair(3), 65535);
        CHECKS.due("6: none is turned", x.turn(3, 0), 1);
        CHECKS.due("6: bit 21 was turned back", x.turn(3, 21), 2);
        CHECKS.due("6: damaged", x.repair(3), CardFlash.DAMAGED);
        CHECKS.due("6: still damaged", x.read(3), CardFlash.DAMAGED);
        CHECKS.due("6: both bits are still turned", x.turn(3, 0), 1);
        CHECKS.due("6: repaired then", x.repair(3), 65535);
        CHECKS.due("6: none is turned then", x.turn(3, 21), 1);
    }

    private static void promise6RepairOfOthers() {
        CardFlash x = new CardFlash();
        x.write(0, 1);
        x.write(1, 2);
        x.turn(0, 7);
        x.turn(1, 7);
        x.repair(0);
        CHECKS.due("6: the neighbour is not repaired", x.turn(1, 8), 2);
    }

    private static void promise7And8PowerAndTidy() {
        int[] steps = {0, 1, 2, 100, -1, -3, Integer.MAX_VALUE, Integer.MIN_VALUE};
        CardFlash x = damagedSector(0, 10, 1, 2);
        x.write(1, 20);
        x.turn(1, 3);
        x.write(2, 30);
        for (int i = 0; i < steps.length; i++) {
            x.power();
            x.tidy(steps[i]);
            x.power();
            x.power();
            x.tidy(steps[i]);
            String when = "7, 8: after tidy(" + steps[i] + ") and power(): ";
            CHECKS.due(when + "read(0)", x.read(0), CardFlash.DAMAGED);
            CHECKS.due(when + "turn(0, 9)", x.turn(0, 9), CardFlash.DAMAGED);
            CHECKS.due(when + "read(1)", x.read(1), 20);
            CHECKS.due(when + "read(2)", x.read(2), 30 + i);
            CHECKS.due(when + "read(3)", x.read(3), CardFlash.EMPTY);
            allCounts(when, x, 3, 1, 50 + i);
            x.write(2, 31 + i);
        }
        CHECKS.due("7, 8: the turned bit of 1 is kept", x.turn(1, 3), 0);
        CHECKS.due("7, 8: the first turned bit of 0 is kept", x.turn(0, 1), 1);
        CHECKS.due("7, 8: the second turned bit of 0 is kept", x.turn(0, 2), 0);
    }

    private static void promise7And8NotWrittenStaysSo() {
        CardFlash x = new CardFlash();
        x.power();
        x.tidy(50);
        allCounts("7, 8: new", x, 0, 0, 0);
        x.write(6, 60);
        x.write(6, 61);
        x.trim(6);
        x.power();
        x.tidy(50);
        x.power();
        CHECKS.due("7, 8: trimmed", x.read(6), CardFlash.EMPTY);
        allCounts("7, 8: trimmed", x, 0, 0, 0);
    }

    private static void promise9Written() {
        CardFlash x = new CardFlash();
        for (int sector = SECTORS - 1; sector >= 0; sector--) {
            x.write(sector, 0);
            CHECKS.due("9: written()", x.written(), SECTORS - sector);
            x.write(sector, 0);
            CHECKS.due("9: written() after the same sector again", x.written(), SECTORS - sector);
        }
        x.turn(0, 0);
        x.turn(0, 1);
        CHECKS.due("9: a damaged sector is written", x.written(), SECTORS);
        x.trim(0);
        x.trim(0);
        CHECKS.due("9: after trim", x.written(), SECTORS - 1);
    }

    private static void promise10Damaged() {
        CardFlash x = new CardFlash();
        for (int sector = 0; sector < SECTORS; sector++) {
            x.write(sector, 65535);
            x.turn(sector, sector);
            CHECKS.due("10: one bit is not enough", x.damaged(), sector);
            x.turn(sector, 21);
            CHECKS.due("10: damaged()", x.damaged(), sector + 1);
        }
        x.turn(15, 21);
        CHECKS.due("10: after a turn back", x.damaged(), 15);
        x.write(14, 1);
        CHECKS.due("10: after a write", x.damaged(), 14);
        x.trim(0);
        CHECKS.due("10: after a trim", x.damaged(), 13);
        x.repair(1);
        CHECKS.due("10: after a repair that does nothing", x.damaged(), 13);
    }

    private static void promise11Sum() {
        CardFlash x = new CardFlash();
        for (int sector = 0; sector < SECTORS; sector++) {
            x.write(sector, 65535);
            CHECKS.due("11: sum()", x.sum(), 65535 * (sector + 1));
        }
        x.turn(5, 0);
        CHECKS.due("11: one bit turned counts", x.sum(), 65535 * 16);
        x.turn(5, 1);
        CHECKS.due("11: the damaged does not count", x.sum(), 65535 * 15);
        x.trim(0);
        CHECKS.due("11: the trimmed does not count", x.sum(), 65535 * 14);
        x.write(15, 1);
        CHECKS.due("11: after a write", x.sum(), 65535 * 13 + 1);
        x.turn(5, 0);
        CHECKS.due("11: after a turn back", x.sum(), 65535 * 14 + 1);
    }

    private static void promise12OrderOfTests() {
        CardFlash x = damagedSector(0, 8, 1, 2);
        for (int bit : NOT_BITS) {
            CHECKS.due("12: BAD bit before EMPTY", x.turn(1, bit), CardFlash.BAD);
            CHECKS.due("12: BAD bit before DAMAGED", x.turn(0, bit), CardFlash.BAD);
            CHECKS.due("12: BAD sector and bit", x.turn(16, bit), CardFlash.BAD);
        }
        CHECKS.due("12: EMPTY for a good bit", x.turn(1, 21), CardFlash.EMPTY);
        x.trim(0);
        CHECKS.due("12: EMPTY before DAMAGED", x.turn(0, 5), CardFlash.EMPTY);
        CHECKS.due("12: EMPTY before turning back", x.turn(0, 1), CardFlash.EMPTY);
    }

    private static void wrongSectorsChangeNothing() {
        CardFlash x = damagedSector(0, 1, 0, 1);
        x.write(15, 2);
        x.turn(15, 4);
        for (int sector : NOT_SECTORS) {
            CHECKS.due("2: write(" + sector + ", 9)", x.write(sector, 9), CardFlash.BAD);
            x.trim(sector);
            x.turn(sector, 3);
            x.repair(sector);
            allCounts("after calls with sector " + sector, x, 2, 1, 2);
        }
        CHECKS.due("bit 4 of 15 is still turned", x.turn(15, 4), 0);
    }

    private static void objectsAreApart() {
        CardFlash one = new CardFlash();
        CardFlash other = new CardFlash();
        one.write(0, 1);
        one.turn(0, 0);
        CHECKS.due("one object's write is not the other's", other.read(0), CardFlash.EMPTY);
        other.write(0, 2);
        CHECKS.due("one object's turn is not the other's", other.turn(0, 1), 1);
        CHECKS.due("the first keeps its value", one.read(0), 1);
    }

    private static CardFlash damagedSector(int sector, int value, int first, int second) {
        CardFlash x = new CardFlash();
        x.write(sector, value);
        x.turn(sector, first);
        x.turn(sector, second);
        return x;
    }

    private static void allCounts(String when, CardFlash x, int written, int damaged, int sum) {
        CHECKS.due(when + " written()", x.written(), written);
        CHECKS.due(when + " damaged()", x.damaged(), damaged);
        CHECKS.due(when + " sum()", x.sum(), sum);
    }
}
