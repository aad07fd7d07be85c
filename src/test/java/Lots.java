import java.math.BigInteger;
import java.util.ArrayList;
import java.util.List;

/** Draws of a seed as the document tells them, with whole numbers that have no end. */
final class Lots {
    private static final BigInteger ROUND = BigInteger.ONE.shiftLeft(64);
    private static final BigInteger TIMES = new BigInteger("6364136223846793005");
    private static final BigInteger AND = new BigInteger("1442695040888963407");

    private BigInteger x;

    Lots(long seed) {
        x = BigInteger.valueOf(seed).mod(ROUND);
    }

    int next(int sides) {
        x = x.multiply(TIMES).add(AND).mod(ROUND);
        return x.shiftRight(33).mod(BigInteger.valueOf(sides)).intValue();
    }

    /** The first seed from 0 on whose first draw is this one. */
    static long seedFor(int sides, int lot) {
        long seed = 0;
        while (new Lots(seed).next(sides) != lot) {
            seed++;
        }
        return seed;
    }

    /** How many COPIES a draw of all WEIGHTS tells; weights[k] is that of k. */
    int nextDegree(int... weights) {
        List<Integer> numbers = new ArrayList<>();
        for (int k = 1; k < weights.length; k++) {
            for (int i = 0; i < weights[k]; i++) {
                numbers.add(k);
            }
        }
        return numbers.get(next(numbers.size()));
    }

    /** The COPIES of a DRAW into SLOTS from .. from + room - 1. */
    static long copies(long seed, int from, int room, int... weights) {
        Lots lots = new Lots(seed);
        List<Integer> free = new ArrayList<>();
        for (int i = 0; i < room; i++) {
            free.add(from + i);
        }
        long bits = 0;
        for (int left = lots.nextDegree(weights); left > 0 && !free.isEmpty(); left--) {
            bits |= 1L << free.remove(lots.next(free.size()));
        }
        return bits;
    }
}
