import java.util.ArrayList;
import java.util.Arrays;
import java.util.List;
import java.util.NoSuchElementException;

/**
 * The document written a second time, for comparison: lists instead of rows used again, weights
 * always made anew from the codes, and each float operation done in doubles and then rounded,
 * which gives the same float for + - * and /.
 */
final class Model {
    private final List<Double> input = new ArrayList<>();
    private final List<Integer> bytes = new ArrayList<>();
    private boolean linear;
    private int decoded;
    private int[] counts = new int[6];
    private List<Double> coderSaid = new ArrayList<>();
    private List<Double> decoderSaid = new ArrayList<>();
    private int[] codes;
    private int stepCode;
    private int[] levels;
    private double[] heardWeights = new double[5];

    private static double f(double v) {
        return (double) (float) v;
    }

    int sample(double v) {
        if (Double.isNaN(v) || v < -32768 || v > 32767) {
            throw new IllegalArgumentException();
        }
        if (input.size() == 48) {
            throw new IllegalStateException();
        }
        input.add(f(v));
        return input.size();
    }

    boolean linear(boolean is) {
        boolean was = linear;
        linear = is;
        return was;
    }

    int encode() {
        if (input.size() < 16) {
            throw new IllegalStateException();
        }
        List<Double> x = new ArrayList<>(input.subList(0, 16));
        double[] r = new double[5];
        for (int k = 0; k <= 4; k++) {
            for (int n = k; n <= 15; n++) {
                r[k] = f(r[k] + f(x.get(n) * x.get(n - k)));
            }
        }
        int size = r[0] < 1 ? 1 : 14;
        if (bytes.size() + size > 120) {
            throw new IndexOutOfBoundsException();
        }
        input.subList(0, 16).clear();
        counts[2]++;
        if (size == 1) {
            bytes.add(0);
            say(coderSaid, new double[16]);
            return 1;
        }
        codes = codesOf(r);
        double[] a = weightsOf(codes, 4);
        stepCode = stepCodeOf(x, a);
        codeLevels(x, a, step(linear, stepCode));
        putPacket();
        return 14;
    }

    private static int[] codesOf(double[] r) {
        int[] c = new int[5];
        double e = r[0];
        for (int i = 1; i <= 4; i++) {
            double[] a = weightsOf(c, i - 1);
            double s = r[i];
            for (int j = 1; j <= i - 1; j++) {
                s = f(s - f(a[j] * r[i - j]));
            }
            double k = f(s / e);
            c[i] = (int) Math.max(-15, Math.min(15, whole(k, f(k * 16))));
            double q = c[i] / 16.0;
            e = f(e * f(1 - f(q * q)));
        }
        return c;
    }

    private static double whole(double sign, double v) {
        double moved = sign < 0 ? f(v - 0.5) : f(v + 0.5);
        return moved < 0 ? Math.ceil(moved) : Math.floor(moved);
    }

    private static double[] weightsOf(int[] c, int order) {
        double[] a = new double[5];
        for (int i = 1; i <= order; i++) {
            double q = c[i] / 16.0;
            double[] next = a.clone();
            for (int j = 1; j <= i - 1; j++) {
                next[j] = f(a[j] - f(q * a[i - j]));
            }
            next[i] = q;
            a = next;
        }
        return a;
    }

    private static double foretold(List<Double> before, double[] a) {
        double p = 0;
        for (int j = 1; j <= 4; j++) {
            int at = before.size() - j;
            p = f(p + f(a[j] * (at < 0 ? 0 : before.get(at))));
        }
        return p;
    }

    private int stepCodeOf(List<Double> x, double[] a) {
        double m = 0;
        for (int n = 0; n < 16; n++) {
            m = Math.max(m, Math.abs(f(x.get(n) - foretold(x.subList(0, n), a))));
        }
        for (int g = 0; g <= 15; g++) {
            if (!(3 * step(linear, g) < m)) {
                return g;
            }
        }
        return 15;
    }

    private static double step(boolean linear, int g) {
        return linear ? 16 * g + 1 : Math.pow(2, g) / 4;
    }

    private static double clip(double v) {
        return Math.max(-32768, Math.min(32767, v));
    }

    private void codeLevels(List<Double> x, double[] a, double step) {
        levels = new int[16];
        for (int n = 0; n < 16; n++) {
            double p = foretold(coderSaid, a);
            double d = f(f(x.get(n) - p) / step);
            levels[n] = (int) Math.max(-4, Math.min(3, whole(d, d)));
            coderSaid.add(clip(f(p + f(levels[n] * step))));
        }
    }

    private void putPacket() {
        int start = bytes.size();
        bytes.add((linear ? 144 : 16) + stepCode);
        for (int i = 1; i <= 4; i++) {
            bytes.add(codes[i] + 15);
        }
        for (int k = 0; k < 8; k++) {
            bytes.add(8 * (levels[2 * k] + 4) + levels[2 * k + 1] + 4);
        }
        bytes.add(sum(bytes.subList(start, bytes.size())));
    }

    private static int sum(List<Integer> row) {
        int all = 0;
        for (int b : row) {
            all += b;
        }
        return all % 256;
    }

    private static void say(List<Double> said, double[] samples) {
        for (double y : samples) {
            said.add(y);
        }
    }

    int decode() {
        if (decoded == bytes.size()) {
            throw new NoSuchElementException();
        }
        int first = bytes.get(decoded);
        boolean coded = first >= 16 && first <= 31 || first >= 144 && first <= 159;
        int size = coded ? 14 : 1;
        if (decoded + size > bytes.size()) {
            throw new IllegalStateException();
        }
        List<Integer> packet = new ArrayList<>(bytes.subList(decoded, decoded + size));
        decoded += size;
        counts[3]++;
        if (first == 0) {
            counts[4]++;
            say(decoderSaid, new double[16]);
            return 0;
        }
        if (coded && sound(packet)) {
            decodeLevels(packet);
            return 1;
        }
        counts[5]++;
        for (int n = 0; n < 16; n++) {
            decoderSaid.add(clip(f(foretold(decoderSaid, heardWeights) * 0.875)));
        }
        return 2;
    }

    private static boolean sound(List<Integer> packet) {
        return packet.subList(1, 5).stream().allMatch(b -> b <= 30)
            && packet.subList(5, 13).stream().allMatch(b -> b <= 63)
            && packet.get(13) == sum(packet.subList(0, 13));
    }

    private void decodeLevels(List<Integer> packet) {
        int[] c = new int[5];
        for (int i = 1; i <= 4; i++) {
            c[i] = packet.get(i) - 15;
        }
        heardWeights = weightsOf(c, 4);
        double step = step(packet.get(0) >= 144, packet.get(0) % 16);
        for (int n = 0; n < 16; n++) {
            int pair = packet.get(5 + n / 2);
            int level = (n % 2 == 0 ? pair / 8 : pair % 8) - 4;
            decoderSaid.add(clip(f(foretold(decoderSaid, heardWeights) + f(level * step))));
        }
    }

    double out(boolean decoder, int n) {
        List<Double> said = decoder ? decoderSaid : coderSaid;
        if (n < 0 || n > 15 || said.isEmpty()) {
            throw new IndexOutOfBoundsException();
        }
        return said.get(said.size() - 16 + n);
    }

    int code(int what) {
        if (what < 0 || what > 6) {
            throw new IllegalArgumentException();
        }
        if (codes == null) {
            return 0;
        }
        switch (what) {
            case 0: return stepCode;
            case 5: return Arrays.stream(levels).map(Math::abs).max().getAsInt();
            case 6: return (int) (weightsOf(codes, 4)[1] * 65536);
            default: return codes[what];
        }
    }

    int stream(int k) {
        if (k == -1) {
            return bytes.size();
        }
        return bytes.get(inStream(k));
    }

    private int inStream(int k) {
        if (k < 0 || k >= bytes.size()) {
            throw new IndexOutOfBoundsException();
        }
        return k;
    }

    int damage(int k, int b) {
        if (b < 0 || b > 255) {
            throw new IllegalArgumentException();
        }
        return bytes.set(inStream(k), b);
    }

    int cut(int n) {
        if (n < 0 || n > bytes.size() - decoded) {
            throw new IllegalArgumentException();
        }
        bytes.subList(bytes.size() - n, bytes.size()).clear();
        return bytes.size();
    }

    int reset() {
        int had = bytes.size();
        bytes.clear();
        decoded = 0;
        counts = new int[6];
        coderSaid = new ArrayList<>();
        decoderSaid = new ArrayList<>();
        codes = null;
        heardWeights = new double[5];
        return had;
    }

    double apart() {
        if (coderSaid.isEmpty() || decoderSaid.isEmpty()) {
            throw new IllegalStateException();
        }
        double most = 0;
        for (int n = 0; n < 16; n++) {
            most = Math.max(most, Math.abs(f(out(true, n) - out(false, n))));
        }
        return most;
    }

    int count(int what) {
        switch (what) {
            case 0: return input.size();
            case 1: return decoded;
            case 2: case 3: case 4: case 5: return counts[what];
            case 6: return linear ? 1 : 0;
            default: throw new IllegalArgumentException();
        }
    }
}
