import java.util.HashMap;
import java.util.HashSet;
import java.util.Map;
import java.util.Set;

/**
 * Long runs of mixed calls, each answer held against a model written straight from the document.
 * The runs are the same every time: their numbers come from a fixed seed.
 */
public final class ModelTest {
    private static final int RUNS = 3000;
    private static final int MOST_CALLS = 512;
    private static final int ENOUGH_WRONG = 20;
    private static final Checks CHECKS = new Checks();

    private long seed = 20261116L;

    public static void main(String[] args) {
        ModelTest test = new ModelTest();
        for (int run = 0; run < RUNS && CHECKS.wrong() < ENOUGH_WRONG; run++) {
            test.oneRun(run);
        }
        CHECKS.end();
    }

    private void oneRun(int run) {
        CardFlash x = new CardFlash();
        Model model = new Model();
        // Few sectors and bits in some runs, so that the same ones are met again and again.
        int sectors = 1 + next(16);
        int bits = 1 + next(22);
        for (int call = 0; call < MOST_CALLS; call++) {
            String where = "run " + run + ", call " + call + ": ";
            int sector = next(40) == 0 ? next(5) * 9 - 20 : next(sectors);
            int bit = next(40) == 0 ? next(5) * 23 - 24 : next(bits);
            oneCall(where, x, model, sector, bit);
        }
    }

    private void oneCall(String where, CardFlash x, Model model, int sector, int bit) {
        int value = next(2) == 0 ? next(70000) : next(1 << 30) - (1 << 29);
        switch (next(16)) {
            case 0, 1, 2 -> CHECKS.due(where + "write(" + sector + ", " + value + ")",
                    x.write(sector, value), model.write(sector, value));
            case 3, 4 -> CHECKS.due(where + "read(" + sector + ")", x.read(sector), model.read(sector));
            case 5 -> CHECKS.due(where + "trim(" + sector + ")", x.trim(sector), model.trim(sector));
            case 6, 7, 8, 9 -> CHECKS.due(where + "turn(" + sector + ", " + bit + ")",
                    x.turn(sector, bit), model.turn(sector, bit));
            case 10 -> CHECKS.due(where + "repair(" + sector + ")", x.repair(sector), model.repair(sector));
            case 11 -> x.power();
            case 12 -> x.tidy(value % 50);
            case 13 -> CHECKS.due(where + "written()", x.written(), model.written());
            case 14 -> CHECKS.due(where + "damaged()", x.damaged(), model.damaged());
            default -> CHECKS.due(where + "sum()", x.sum(), model.sum());
        }
    }

    private int next(int bound) {
        seed = seed * 6364136223846793005L + 1442695040888963407L;
        return (int) ((seed >>> 33) % bound);
    }

    private static final class Model {
        private final Map<Integer, Integer> values = new HashMap<>();
        private final Map<Integer, Set<Integer>> turned = new HashMap<>();

        int write(int sector, int value) {
            if (sector < 0 || sector > 15) {
                return -1;
            }
            values.put(sector, value & 65535);
            turned.put(sector, new HashSet<>());
            return 0;
        }

        int read(int sector) {
            if (sector < 0 || sector > 15) {
                return -1;
            }
            if (!values.containsKey(sector)) {
                return -2;
            }
            return turned.get(sector).size() == 2 ? -3 : values.get(sector);
        }

        int trim(int sector) {
            if (sector < 0 || sector > 15) {
                return -1;
            }
            return values.remove(sector) == null ? -2 : 0;
        }

        int turn(int sector, int bit) {
            if (sector < 0 || sector > 15 || bit < 0 || bit > 21) {
                return -1;
            }
            if (!values.containsKey(sector)) {
                return -2;
            }
            Set<Integer> bits = turned.get(sector);
            if (!bits.remove(bit)) {
                if (bits.size() == 2) {
                    return -3;
                }
                bits.add(bit);
            }
            return bits.size();
        }

        int repair(int sector) {
            int answer = read(sector);
            if (answer >= 0) {
                turned.get(sector).clear();
            }
            return answer;
        }

        int written() {
            return values.size();
        }

        int damaged() {
            return (int) values.keySet().stream().filter(sector -> read(sector) == -3).count();
        }

        int sum() {
            return values.keySet().stream().mapToInt(this::read).filter(answer -> answer >= 0).sum();
        }
    }
}
