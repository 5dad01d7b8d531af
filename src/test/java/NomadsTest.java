import java.math.BigInteger;

/** Promises 28 to 30: nomads, odds, seed. */
public final class NomadsTest {
    public static void main(String[] args) {
        nomads();
        odds();
        seed();
        Check.end();
    }

    private static void nomads() {
        GroundTents x = Check.camp("tent;stiff felt 1 2 3 4;laced felt 90 80 70 60");
        GroundTents y = Check.camp("tent;stiff felt 1 2 3 4;laced felt 90 80 70 60");
        int z = 1;
        for (int i = 0; i < 20; i++) {
            z = z * 1103515245 + 12345;
            int tent = (z >>> 8) % 8;
            z = z * 1103515245 + 12345;
            if (tent < 3) {
                y.change(tent, 1, (z >>> 8) % 16);
            }
            y.go(1);
        }
        Check.due("28: nomads(20)", y.now(1), x.nomads(20));
        Check.due("28: twenty days", 20, x.now(0));
        Check.due("28: forty draws", z, x.count(6));
        for (int t = 0; t < 3; t++) {
            for (int what = 0; what < 8; what++) {
                Check.due("28: of(" + t + ", " + what + ")", y.of(t, what), x.of(t, what));
            }
        }
        x = new GroundTents();
        Check.due("28: no tents", 1250, x.nomads(1));
        Check.due("28: a day", 1, x.now(0));
        int[] wrong = {0, 21, -1};
        for (int n : wrong) {
            Check.due("28: nomads(" + n + ")", Check.BEYOND, x.nomads(n));
        }
        Check.due("28: a finding is no day", 1, x.now(0));
    }

    private static void odds() {
        GroundTents x = new GroundTents();
        x.spring(12, 1);
        // 12 of 16 pitches are without it
        Check.due("29: one spring, three draws, above", 27, x.odds(3, 0));
        Check.due("29: one spring, three draws, below", 64, x.odds(3, 1));
        Check.due("29: no draws, above", 1, x.odds(0, 0));
        Check.due("29: no draws, below", 1, x.odds(0, 1));
        x = new GroundTents();
        int[] cells = {0, 4, 20, 24, 2, 10, 14, 22, 12, 7, 11};
        for (int c : cells) {
            x.spring(c, 1);
            oddsOf(x);
        }
        Check.due("29: a spring everywhere, above", 0, x.odds(15, 0));
        Check.due("29: a spring everywhere, below", 1, x.odds(15, 1));
        Check.due("29: a spring everywhere, no draws", 1, x.odds(0, 0));
        int[][] wrong = {{-1, 0}, {16, 0}, {0, -1}, {0, 2}};
        for (int[] w : wrong) {
            Check.due("29: odds(" + w[0] + ", " + w[1] + ")", Check.BEYOND, x.odds(w[0], w[1]));
        }
    }

    private static void oddsOf(GroundTents x) {
        int dry = 0;
        for (int row = 0; row < 4; row++) {
            for (int column = 0; column < 4; column++) {
                int c = 5 * row + column;
                dry += x.cell(c, 1) + x.cell(c + 1, 1) + x.cell(c + 5, 1) + x.cell(c + 6, 1) == 0 ? 1 : 0;
            }
        }
        for (int n = 0; n <= 15; n++) {
            BigInteger above = BigInteger.valueOf(dry).pow(n);
            BigInteger below = BigInteger.valueOf(16).pow(n);
            BigInteger divisor = above.gcd(below);
            Check.due("29: above, " + dry + " dry, " + n, above.divide(divisor).longValueExact(), x.odds(n, 0));
            Check.due("29: below, " + dry + " dry, " + n, below.divide(divisor).longValueExact(), x.odds(n, 1));
        }
    }

    private static void seed() {
        GroundTents x = new GroundTents();
        Check.due("30: at first", 1, x.seed(-1000001));
        Check.due("30: what it was, though it looks like a finding", -1000001, x.seed(Integer.MIN_VALUE));
        Check.due("30: the least", Integer.MIN_VALUE, x.seed(0));
        Check.due("30: no finding was told", 0, x.status(-1));
        x.nomads(1);
        Check.due("30: draws go on from there", 12345 * 1103515245 + 12345, x.count(6));
    }
}
