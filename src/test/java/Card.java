import java.util.ArrayList;
import java.util.List;

/**
 * A new CardFlash under test. It notes every answer that is not the one that is due, and refuses to
 * go beyond the 512 calls for which the document promises anything.
 */
final class Card {
    static final int SECTORS = 16;
    static final int BITS = 22;
    static final int MOST_CALLS = 512;

    private final CardFlash flash = new CardFlash();
    private final List<String> faults = new ArrayList<>();
    private int calls = 0;

    final class Answer {
        private final String call;
        private final int got;

        private Answer(String call, int got) {
            this.call = call;
            this.got = got;
        }

        void is(int due) {
            if (got != due) {
                fault("call " + calls + ", " + call + ", answered " + got + ", due is " + due);
            }
        }
    }

    Answer write(int sector, int value) {
        count();
        return new Answer("write(" + sector + ", " + value + ")", flash.write(sector, value));
    }

    Answer read(int sector) {
        count();
        return new Answer("read(" + sector + ")", flash.read(sector));
    }

    Answer trim(int sector) {
        count();
        return new Answer("trim(" + sector + ")", flash.trim(sector));
    }

    Answer turn(int sector, int bit) {
        count();
        return new Answer("turn(" + sector + ", " + bit + ")", flash.turn(sector, bit));
    }

    Answer repair(int sector) {
        count();
        return new Answer("repair(" + sector + ")", flash.repair(sector));
    }

    void power() {
        count();
        flash.power();
    }

    void tidy(int steps) {
        count();
        flash.tidy(steps);
    }

    Answer written() {
        count();
        return new Answer("written()", flash.written());
    }

    Answer damaged() {
        count();
        return new Answer("damaged()", flash.damaged());
    }

    Answer sum() {
        count();
        return new Answer("sum()", flash.sum());
    }

    int calls() {
        return calls;
    }

    List<String> faults() {
        return faults;
    }

    void fault(String text) {
        faults.add(text);
    }

    private void count() {
        calls++;
        if (calls > MOST_CALLS) {
            throw new IllegalStateException("the test itself is wrong: it makes more than 512 calls");
        }
    }

    /** Writes the sector and turns the given bits, so that they are its turned bits. */
    void store(int sector, int value, int... turned) {
        write(sector, value).is(0);
        for (int i = 0; i < turned.length; i++) {
            turn(sector, turned[i]).is(i + 1);
        }
    }

    /**
     * The sector holds the value, and its turned bits are the given ones and no others. To see which
     * they are, each is turned back and then turned again.
     */
    void holds(int sector, int value, int... turned) {
        switch (turned.length) {
            case 0 -> {
                read(sector).is(value);
                turn(sector, 0).is(1);
                turn(sector, 0).is(0);
            }
            case 1 -> {
                read(sector).is(value);
                turn(sector, turned[0]).is(0);
                turn(sector, turned[0]).is(1);
            }
            default -> {
                read(sector).is(CardFlash.DAMAGED);
                turn(sector, turned[0]).is(1);
                holds(sector, value, turned[1]);
                turn(sector, turned[0]).is(2);
            }
        }
    }

    void isEmpty(int sector) {
        read(sector).is(CardFlash.EMPTY);
        turn(sector, 0).is(CardFlash.EMPTY);
    }

    void counts(int written, int damaged, int sum) {
        written().is(written);
        damaged().is(damaged);
        sum().is(sum);
    }

    void isNew() {
        for (int sector = 0; sector < SECTORS; sector++) {
            isEmpty(sector);
        }
        counts(0, 0, 0);
    }

    void fill(int value) {
        for (int sector = 0; sector < SECTORS; sector++) {
            write(sector, value).is(0);
        }
    }

    void damageAll() {
        for (int sector = 0; sector < SECTORS; sector++) {
            turn(sector, 0).is(1);
            turn(sector, 21).is(2);
        }
    }

    /** Sectors of every kind: damaged, with one bit turned, with none, trimmed, and never written. */
    void storeMixed() {
        storeMixed(() -> { });
    }

    void storeMixed(Runnable afterEach) {
        store(0, 10, 0, 21);
        afterEach.run();
        store(1, 20, 3);
        afterEach.run();
        store(2, 30);
        afterEach.run();
        store(3, 40, 5, 6);
        afterEach.run();
        trim(3).is(0);
        afterEach.run();
        store(15, 65535, 21);
        afterEach.run();
    }

    void isMixed() {
        holds(0, 10, 0, 21);
        holds(1, 20, 3);
        holds(2, 30);
        for (int sector = 3; sector < 15; sector++) {
            isEmpty(sector);
        }
        holds(15, 65535, 21);
        counts(4, 1, 20 + 30 + 65535);
    }
}
