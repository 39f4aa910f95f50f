import java.util.NoSuchElementException;

/** Each promise of the document with answers worked out by hand: ordinary inputs, edges, wrong inputs. */
public final class PromiseTest {
    private static final Checks CHECKS = new Checks();

    /** A packet in the doubling book: step 4, no codes, level 3 for sample 0 and 0 for the others. */
    private static final int[] PLAIN = {20, 15, 15, 15, 15, 60, 36, 36, 36, 36, 36, 36, 36, 136};

    public static void main(String[] args) {
        newObject();
        sample();
        linear();
        encodePlain();
        encodeSilent();
        encodeSteps();
        encodeLevels();
        encodeCodes();
        encodeMemory();
        encodeRefusals();
        decodeKinds();
        decodeByCodes();
        decodeDamaged();
        decodeMadeUp();
        decodeCut();
        out();
        code();
        stream();
        damage();
        cut();
        reset();
        apart();
        count();
        CHECKS.end();
    }

    private static void due(String what, Object got, Object want) {
        CHECKS.due(what, got, want);
    }

    private static void refused(String what, Class<? extends RuntimeException> e, java.util.function.Supplier<?> call) {
        CHECKS.dueThrow(what, e, call);
    }

    /** A frame with the values given from its start on, and 0 behind them. */
    private static void frame(VoiceForge forge, double... values) {
        for (int n = 0; n < 16; n++) {
            forge.sample(n < values.length ? values[n] : 0.0);
        }
    }

    private static void even(VoiceForge forge, double value) {
        for (int n = 0; n < 16; n++) {
            forge.sample(value);
        }
    }

    private static void dueBytes(String what, VoiceForge forge, int from, int... want) {
        for (int k = 0; k < want.length; k++) {
            due(what + ": byte " + (from + k), forge.stream(from + k), want[k]);
        }
    }

    private static void dueOut(String what, VoiceForge forge, boolean decoder, double... want) {
        for (int n = 0; n < want.length; n++) {
            due(what + ": sample " + n, forge.out(decoder, n), want[n]);
        }
    }

    /** Puts a packet of 14 bytes on the stream, coded from some frame and then overwritten. */
    private static void put(VoiceForge forge, int... packet) {
        int start = forge.stream(-1);
        frame(forge, 16);
        forge.encode();
        for (int k = 0; k < packet.length; k++) {
            forge.damage(start + k, packet[k]);
        }
    }

    private static int[] with(int[] packet, int k, int b) {
        int[] changed = packet.clone();
        changed[k] = b;
        return changed;
    }

    /** As with, but the sum is right for the changed packet. */
    private static int[] withSum(int[] packet, int k, int b) {
        int[] changed = with(packet, k, b);
        int sum = 0;
        for (int at = 0; at < 13; at++) {
            sum += changed[at];
        }
        changed[13] = sum % 256;
        return changed;
    }

    private static void newObject() {
        VoiceForge forge = new VoiceForge();
        for (int what = 0; what <= 6; what++) {
            due("new: count " + what, forge.count(what), 0);
            due("new: code " + what, forge.code(what), 0);
        }
        due("new: stream", forge.stream(-1), 0);
        refused("new: out of the coder", IndexOutOfBoundsException.class, () -> forge.out(false, 0));
        refused("new: out of the decoder", IndexOutOfBoundsException.class, () -> forge.out(true, 0));
        refused("new: apart", IllegalStateException.class, forge::apart);
        refused("new: encode", IllegalStateException.class, forge::encode);
        refused("new: decode", NoSuchElementException.class, forge::decode);
        due("new: reset", forge.reset(), 0);
        VoiceForge other = new VoiceForge();
        other.sample(1);
        due("objects are apart", forge.count(0), 0);
    }

    private static void sample() {
        VoiceForge forge = new VoiceForge();
        due("lowest", forge.sample(-32768), 1);
        due("highest", forge.sample(32767), 2);
        due("minus zero", forge.sample(-0.0), 3);
        due("tiny", forge.sample(Double.MIN_VALUE), 4);
        double[] wrong = {-32768.5, 32767.5, 32768, Double.NaN, Double.POSITIVE_INFINITY,
            Double.NEGATIVE_INFINITY, Double.MAX_VALUE, -Double.MAX_VALUE};
        for (double v : wrong) {
            refused("sample(" + v + ")", IllegalArgumentException.class, () -> forge.sample(v));
        }
        due("refused ones do not come in", forge.count(0), 4);
        for (int n = 5; n <= 48; n++) {
            due("sample " + n, forge.sample(n), n);
        }
        refused("the 49th", IllegalStateException.class, () -> forge.sample(0));
        refused("the 49th, wrong", IllegalArgumentException.class, () -> forge.sample(Double.NaN));
        due("still 48", forge.count(0), 48);
        sampleIsFloat();
    }

    /** 0.99999999 is 1 as a float, so that its frame is not silent. */
    private static void sampleIsFloat() {
        VoiceForge forge = new VoiceForge();
        frame(forge, 0.99999999);
        due("float", forge.encode(), 14);
        forge.reset();
        frame(forge, 0.9999999);
        due("float below 1", forge.encode(), 1);
    }

    private static void linear() {
        VoiceForge forge = new VoiceForge();
        due("doubling at first", forge.linear(false), false);
        due("still doubling", forge.linear(true), false);
        due("linear", forge.linear(true), true);
        frame(forge, 16);
        forge.encode();
        dueBytes("linear", forge, 0, 145, 15, 15, 15, 15, 8 * 5 + 4);
        due("was linear", forge.linear(false), true);
        frame(forge, 16);
        forge.encode();
        dueBytes("doubling", forge, 14, 21);
        forge.decode();
        due("decoded by the linear book", forge.out(true, 0), 17.0);
        due("decoding leaves the book", forge.linear(false), false);
    }

    private static void encodePlain() {
        VoiceForge forge = new VoiceForge();
        frame(forge, 16);
        forge.sample(5);
        due("plain", forge.encode(), 14);
        dueBytes("plain", forge, 0, 21, 15, 15, 15, 15, 52, 36, 36, 36, 36, 36, 36, 36, 129);
        dueOut("plain", forge, false, 16, 0, 0, 0, 0, 0, 0, 0, 0, 0, 0, 0, 0, 0, 0, 0);
        due("the rest stays", forge.count(0), 1);
        due("length", forge.stream(-1), 14);
        for (int n = 1; n < 16; n++) {
            forge.sample(0);
        }
        forge.encode();
        dueBytes("the rest comes first", forge, 14, 16 + 3, 15, 15, 15, 15, 8 * (3 + 4) + 4);
        due("5 by step 2 is 2.5, level 3", forge.out(false, 0), 6.0);
    }

    private static void encodeSilent() {
        VoiceForge forge = new VoiceForge();
        frame(forge, 16);
        forge.encode();
        frame(forge, 0.5, 0.5, 0.5, 0.4999);
        due("below 1", forge.encode(), 1);
        dueBytes("silent", forge, 14, 0);
        due("length", forge.stream(-1), 15);
        dueOut("silent", forge, false, 0, 0, 0, 0, 0, 0, 0, 0, 0, 0, 0, 0, 0, 0, 0, 0);
        due("silence leaves the codes", forge.code(0), 5);
        frame(forge, 0.5, 0.5, 0.5, 0.5);
        due("just 1", forge.encode(), 14);
        due("coded", forge.count(2), 3);
    }

    private static void dueStep(boolean linear, double first, int stepCode, double y) {
        VoiceForge forge = new VoiceForge();
        forge.linear(linear);
        frame(forge, first);
        forge.encode();
        String what = (linear ? "linear " : "doubling ") + first;
        due(what + ": step code", forge.code(0), stepCode);
        due(what + ": byte", forge.stream(0), (linear ? 144 : 16) + stepCode);
        due(what + ": y", forge.out(false, 0), y);
    }

    private static void encodeSteps() {
        dueStep(false, 1, 1, 1);
        dueStep(false, 1.5, 1, 1.5);
        dueStep(false, 1.5625, 2, 2);
        dueStep(false, 3, 2, 3);
        dueStep(false, 24576, 15, 24576);
        dueStep(false, 12288, 14, 12288);
        dueStep(false, 32767, 15, 24576);
        dueStep(false, -32768, 15, -32768);
        dueStep(true, 1, 0, 1);
        dueStep(true, 3, 0, 3);
        dueStep(true, 3.5, 1, 0);
        dueStep(true, 51, 1, 51);
        dueStep(true, 51.5, 2, 66);
        dueStep(true, 675, 14, 675);
        dueStep(true, 723, 15, 723);
        dueStep(true, 20000, 15, 723);
        dueStep(true, -20000, 15, -964);
    }

    /** Samples five apart have no likeness in reach, so that the codes are 0 and each stands for itself. */
    private static void encodeLevels() {
        VoiceForge forge = new VoiceForge();
        frame(forge, 16, 0, 0, 0, 0, 4, 0, 0, 0, 0, -4, 0, 0, 0, 0, 3.9);
        forge.encode();
        dueOut("rounded", forge, false, 16, 0, 0, 0, 0, 8, 0, 0, 0, 0, -8, 0, 0, 0, 0, 0);
        dueBytes("levels", forge, 5, 52, 36, 36 + 1, 36, 36, 36 - 8, 36, 36);
        due("greatest level", forge.code(5), 2);
        forge.reset();
        frame(forge, -32768, 0, 0, 0, 0, 32767);
        forge.encode();
        dueOut("clipped levels", forge, false, -32768, 0, 0, 0, 0, 24576);
        due("greatest without sign", forge.code(5), 4);
        dueBytes("clipped levels", forge, 5, 4, 36, 36 + 3);
    }

    private static void encodeCodes() {
        VoiceForge forge = new VoiceForge();
        even(forge, 100);
        forge.encode();
        dueBytes("even", forge, 0, 24, 30, 14, 15, 14);
        int[] want = {8, 15, -1, 0, -1, 2, 65280};
        for (int what = 0; what <= 6; what++) {
            due("even: code " + what, forge.code(what), want[what]);
        }
        due("even: y(0)", forge.out(false, 0), 128.0);
        due("even: y(1), 127.5 foretold", forge.out(false, 1), 127.5);
        for (int sign = -1; sign <= 1; sign += 2) {
            forge.reset();
            for (int n = 0; n < 16; n++) {
                forge.sample(1000 * Math.sin(Math.PI * (n + 1) / 17) * (n % 2 == 0 ? 1 : sign));
            }
            forge.encode();
            due("a code is not beyond 15", forge.code(1), 15 * sign);
            due("its byte", forge.stream(1), 15 + 15 * sign);
        }
    }

    /** What is foretold in a second frame comes from the samples decoded in the first. */
    private static void encodeMemory() {
        VoiceForge forge = new VoiceForge();
        even(forge, 96);
        even(forge, 96);
        forge.encode();
        due("first: step code", forge.code(0), 7);
        due("first: y(0)", forge.out(false, 0), 96.0);
        double[] a = {0.99609375, -0.06640625, 0.062255859375, -0.0625};
        float p = 0;
        for (int j = 1; j <= 4; j++) {
            float product = (float) a[j - 1] * (float) forge.out(false, 16 - j);
            p = p + product;
        }
        float d = (96 - p) / 32;
        int level = (int) (d < 0 ? d - 0.5f : d + 0.5f);
        forge.encode();
        due("second: step code is told without the first", forge.code(0), 7);
        due("second: y(0)", forge.out(false, 0), (double) (p + level * 32));
    }

    private static void encodeRefusals() {
        VoiceForge forge = new VoiceForge();
        for (int n = 0; n < 15; n++) {
            forge.sample(100);
        }
        refused("15 samples", IllegalStateException.class, forge::encode);
        forge.sample(100);
        due("16 samples", forge.encode(), 14);
        for (int k = 1; k < 8; k++) {
            frame(forge, 16);
            forge.encode();
        }
        even(forge, 50);
        double before = forge.out(false, 0);
        refused("no room", IndexOutOfBoundsException.class, forge::encode);
        due("input stays", forge.count(0), 16);
        due("stream stays", forge.stream(-1), 112);
        due("packets stay", forge.count(2), 8);
        due("codes stay", forge.code(1), 0);
        due("step code stays", forge.code(0), 5);
        due("samples stay", forge.out(false, 0), before);
        forge.decode();
        refused("decoded bytes take room too", IndexOutOfBoundsException.class, forge::encode);
        forge.cut(7);
        due("room for 14 behind 105", forge.encode(), 14);
        even(forge, 50);
        refused("no room behind 119", IndexOutOfBoundsException.class, forge::encode);
        due("119 bytes", forge.stream(-1), 119);
        encodeSilentInLastByte();
    }

    private static void encodeSilentInLastByte() {
        VoiceForge forge = new VoiceForge();
        for (int k = 0; k < 8; k++) {
            frame(forge, 16);
            forge.encode();
        }
        for (int k = 113; k <= 120; k++) {
            even(forge, 0);
            due("silent finds room", forge.encode(), 1);
            due("length", forge.stream(-1), k);
        }
        even(forge, 0);
        refused("silent without room", IndexOutOfBoundsException.class, forge::encode);
        due("input stays", forge.count(0), 16);
        forge.cut(1);
        due("room for it after a cut", forge.encode(), 1);
    }

    private static void decodeKinds() {
        VoiceForge forge = new VoiceForge();
        put(forge, PLAIN);
        even(forge, 0);
        forge.encode();
        put(forge, with(PLAIN, 13, 0));
        due("by its codes", forge.decode(), 1);
        dueOut("by its codes", forge, true, 12, 0, 0, 0, 0, 0, 0, 0, 0, 0, 0, 0, 0, 0, 0, 0);
        due("14 bytes", forge.count(1), 14);
        due("silent", forge.decode(), 0);
        dueOut("silent", forge, true, 0, 0, 0, 0, 0, 0, 0, 0, 0, 0, 0, 0, 0, 0, 0, 0);
        due("1 byte", forge.count(1), 15);
        due("made up", forge.decode(), 2);
        due("all 14 bytes", forge.count(1), 29);
        refused("no byte more", NoSuchElementException.class, forge::decode);
        due("nothing decoded", forge.count(3), 3);
    }

    private static void decodeByCodes() {
        VoiceForge forge = new VoiceForge();
        put(forge, withSum(PLAIN, 1, 23));
        put(forge, withSum(with(PLAIN, 0, 144 + 15), 5, 8 * 0 + 7));
        put(forge, withSum(with(PLAIN, 0, 31), 5, 8 * 7 + 0));
        put(forge, withSum(with(with(PLAIN, 0, 31), 1, 30), 5, 63));
        forge.decode();
        dueOut("a(1) is a half", forge, true, 12, 6, 3, 1.5, 0.75);
        forge.decode();
        dueOut("linear, step 241", forge, true, -964, 723, 0, 0);
        due("the coder's book stays", forge.count(6), 0);
        forge.decode();
        dueOut("doubling, step 8192", forge, true, 24576, -32768, 0, 0);
        due("greatest code", forge.decode(), 1);
        dueOut("clipped above", forge, true, 24576, 32767, 32767 * 0.9375);
        VoiceForge low = new VoiceForge();
        put(low, withSum(with(with(PLAIN, 0, 31), 1, 30), 5, 0));
        low.decode();
        dueOut("clipped below", low, true, -32768, -32768, -30720);
        decodeByMemory();
    }

    private static void decodeByMemory() {
        VoiceForge forge = new VoiceForge();
        put(forge, withSum(PLAIN, 12, 8 * 4 + 7));
        put(forge, withSum(withSum(PLAIN, 1, 23), 5, 36));
        forge.decode();
        due("last sample", forge.out(true, 15), 12.0);
        forge.decode();
        dueOut("foretold from the packet before", forge, true, 6, 3, 1.5);
    }

    private static void dueKind(String what, int kind, int size, int... packet) {
        VoiceForge forge = new VoiceForge();
        put(forge, packet);
        due(what, forge.decode(), kind);
        due(what + ": bytes", forge.count(1), size);
    }

    private static void decodeDamaged() {
        for (int first = 0; first < 256; first++) {
            boolean coded = first >= 16 && first <= 31 || first >= 144 && first <= 159;
            int kind = first == 0 ? 0 : coded ? 1 : 2;
            dueKind("first byte " + first, kind, coded ? 14 : 1, withSum(PLAIN, 0, first));
        }
        for (int k = 1; k <= 13; k++) {
            dueKind("byte " + k + " against the sum", 2, 14, with(PLAIN, k, PLAIN[k] - 1));
        }
        for (int k = 1; k <= 4; k++) {
            dueKind("code 30", 1, 14, withSum(PLAIN, k, 30));
            dueKind("code 0", 1, 14, withSum(PLAIN, k, 0));
            dueKind("code 31", 2, 14, withSum(PLAIN, k, 31));
            dueKind("code 255", 2, 14, withSum(PLAIN, k, 255));
        }
        for (int k = 5; k <= 12; k++) {
            dueKind("levels 63", 1, 14, withSum(PLAIN, k, 63));
            dueKind("levels 0", 1, 14, withSum(PLAIN, k, 0));
            dueKind("levels 64", 2, 14, withSum(PLAIN, k, 64));
            dueKind("levels 255", 2, 14, withSum(PLAIN, k, 255));
        }
    }

    private static void decodeMadeUp() {
        VoiceForge forge = new VoiceForge();
        put(forge, with(PLAIN, 13, 0));
        forge.decode();
        dueOut("made up of nothing", forge, true, 0, 0, 0, 0);
        put(forge, withSum(withSum(PLAIN, 1, 23), 12, 8 * 4 + 7));
        put(forge, 1);
        forge.cut(13);
        put(forge, withSum(PLAIN, 3, 31));
        forge.decode();
        double y = forge.out(true, 15);
        due("one byte", forge.decode(), 2);
        dueOut("made up", forge, true, y * 0.4375, (double) (float) ((float) (y * 0.4375) * 0.5) * 0.875);
        double last = forge.out(true, 15);
        due("again", forge.decode(), 2);
        due("by the a of the sound one", forge.out(true, 0), (double) (float) (last * 0.5 * 0.875));
        decodeMadeUpAfterSilence();
        decodeMadeUpClipped();
    }

    /** Silence clears the memory, yet the weights are still those of the packet before it. */
    private static void decodeMadeUpAfterSilence() {
        VoiceForge forge = new VoiceForge();
        put(forge, withSum(PLAIN, 1, 23));
        even(forge, 0);
        forge.encode();
        put(forge, 200);
        forge.cut(13);
        put(forge, withSum(PLAIN, 12, 8 * 4 + 7));
        put(forge, 200);
        forge.decode();
        forge.decode();
        due("after silence", forge.decode(), 2);
        dueOut("after silence", forge, true, 0, 0, 0, 0);
        forge.decode();
        due("after a packet without codes", forge.decode(), 2);
        dueOut("its weights are 0", forge, true, 0, 0, 0);
    }

    /** Codes 15 and -15 make a(1) nearly 2, so that what is made up behind a sudden end grows. */
    private static void decodeMadeUpClipped() {
        int[] end = {31, 30, 0, 15, 15, 36, 36, 36, 36, 36, 36, 36, 36, 0};
        VoiceForge forge = new VoiceForge();
        put(forge, withSum(end, 12, 8 * 4 + 7));
        put(forge, 200);
        forge.decode();
        due("last", forge.out(true, 15), 24576.0);
        due("made up", forge.decode(), 2);
        dueOut("clipped above", forge, true, 32767, (1.81640625f * 32767f - 0.9375f * 24576f) * 0.875f);
        VoiceForge low = new VoiceForge();
        put(low, withSum(end, 12, 8 * 4));
        put(low, 200);
        low.decode();
        low.decode();
        due("clipped below", low.out(true, 0), -32768.0);
    }

    private static void decodeCut() {
        for (int left = 1; left <= 13; left++) {
            VoiceForge forge = new VoiceForge();
            put(forge, with(PLAIN, 2, 99));
            forge.cut(14 - left);
            refused("cut to " + left, IllegalStateException.class, forge::decode);
            due("nothing is decoded", forge.count(1) + forge.count(3), 0);
            refused("no sample", IndexOutOfBoundsException.class, () -> forge.out(true, 0));
        }
        VoiceForge forge = new VoiceForge();
        put(forge, PLAIN);
        forge.cut(13);
        refused("cut to its first byte", IllegalStateException.class, forge::decode);
        put(forge, PLAIN);
        due("what comes behind fills it up", forge.decode(), 2);
        due("with 14 bytes", forge.count(1), 14);
        forge.damage(14, 77);
        due("a byte that is alone is not cut", forge.decode(), 2);
    }

    private static void out() {
        VoiceForge forge = new VoiceForge();
        frame(forge, 16, 0, 0, 0, 0, 8);
        forge.encode();
        refused("decoder has none", IndexOutOfBoundsException.class, () -> forge.out(true, 5));
        due("coded", forge.out(false, 5), 8.0);
        forge.decode();
        due("decoded", forge.out(true, 5), 8.0);
        frame(forge, 32);
        forge.encode();
        due("coded latest", forge.out(false, 0), 32.0);
        due("decoded latest", forge.out(true, 0), 16.0);
        for (int n : new int[] {-1, 16, Integer.MIN_VALUE, Integer.MAX_VALUE}) {
            refused("coder " + n, IndexOutOfBoundsException.class, () -> forge.out(false, n));
            refused("decoder " + n, IndexOutOfBoundsException.class, () -> forge.out(true, n));
        }
        due("last", forge.out(false, 15), 0.0);
        forge.reset();
        refused("after reset", IndexOutOfBoundsException.class, () -> forge.out(false, 0));
        even(forge, 0);
        forge.encode();
        due("silent, coded", forge.out(false, 15), 0.0);
        forge.decode();
        due("silent, decoded", forge.out(true, 15), 0.0);
        due("silent on both sides", forge.apart(), 0.0);
    }

    private static void code() {
        VoiceForge forge = new VoiceForge();
        even(forge, 0);
        forge.encode();
        for (int what = 0; what <= 6; what++) {
            due("silent only: code " + what, forge.code(what), 0);
        }
        even(forge, 100);
        forge.encode();
        even(forge, 0);
        forge.encode();
        int[] want = {8, 15, -1, 0, -1, 2, 65280};
        for (int what = 0; what <= 6; what++) {
            due("before silence: code " + what, forge.code(what), want[what]);
        }
        forge.decode();
        forge.decode();
        due("decoding leaves it", forge.code(1), 15);
        for (int what : new int[] {-1, 7, Integer.MIN_VALUE, Integer.MAX_VALUE}) {
            refused("code " + what, IllegalArgumentException.class, () -> forge.code(what));
        }
        for (int n = 0; n < 16; n++) {
            forge.sample(n % 2 == 0 ? 100 : -100);
        }
        forge.encode();
        due("a(1) below 0", forge.code(6), -65280);
    }

    private static void stream() {
        VoiceForge forge = new VoiceForge();
        refused("empty", IndexOutOfBoundsException.class, () -> forge.stream(0));
        put(forge, PLAIN);
        due("how many", forge.stream(-1), 14);
        dueBytes("plain", forge, 0, PLAIN);
        for (int k : new int[] {14, -2, 119, 120, Integer.MIN_VALUE, Integer.MAX_VALUE}) {
            refused("byte " + k, IndexOutOfBoundsException.class, () -> forge.stream(k));
        }
        forge.decode();
        due("decoded ones stay", forge.stream(-1), 14);
        dueBytes("decoded ones stay", forge, 0, PLAIN);
        put(forge, PLAIN);
        forge.cut(3);
        refused("cut off", IndexOutOfBoundsException.class, () -> forge.stream(25));
        due("last", forge.stream(24), PLAIN[10]);
    }

    private static void damage() {
        VoiceForge forge = new VoiceForge();
        refused("empty", IndexOutOfBoundsException.class, () -> forge.damage(0, 0));
        put(forge, PLAIN);
        due("what it was", forge.damage(0, 255), 20);
        due("what it is", forge.damage(0, 0), 255);
        due("lowest", forge.damage(0, 20), 0);
        for (int b : new int[] {-1, 256, Integer.MIN_VALUE, Integer.MAX_VALUE}) {
            refused("b " + b, IllegalArgumentException.class, () -> forge.damage(0, b));
            refused("b first " + b, IllegalArgumentException.class, () -> forge.damage(99, b));
        }
        for (int k : new int[] {-1, 14, 120, Integer.MIN_VALUE, Integer.MAX_VALUE}) {
            refused("k " + k, IndexOutOfBoundsException.class, () -> forge.damage(k, 1));
        }
        dueBytes("refused ones change nothing", forge, 0, PLAIN);
        forge.decode();
        due("a decoded byte", forge.damage(3, 7), 15);
        due("is changed too", forge.stream(3), 7);
        due("but not decoded anew", forge.out(true, 0), 12.0);
    }

    private static void cut() {
        VoiceForge forge = new VoiceForge();
        due("nothing of nothing", forge.cut(0), 0);
        refused("one of nothing", IllegalArgumentException.class, () -> forge.cut(1));
        put(forge, PLAIN);
        put(forge, PLAIN);
        forge.decode();
        for (int n : new int[] {-1, 15, 28, Integer.MIN_VALUE, Integer.MAX_VALUE}) {
            refused("cut " + n, IllegalArgumentException.class, () -> forge.cut(n));
        }
        due("unchanged", forge.stream(-1), 28);
        due("none", forge.cut(0), 28);
        due("one", forge.cut(1), 27);
        due("all but the decoded", forge.cut(13), 14);
        refused("a decoded one", IllegalArgumentException.class, () -> forge.cut(1));
        due("decoded", forge.count(1), 14);
        refused("no byte more", NoSuchElementException.class, forge::decode);
        frame(forge, 16);
        forge.encode();
        dueBytes("written at the end", forge, 14, 21, 15);
    }

    private static void reset() {
        VoiceForge forge = new VoiceForge();
        forge.linear(true);
        even(forge, 100);
        forge.encode();
        forge.linear(false);
        put(forge, withSum(withSum(PLAIN, 1, 23), 12, 63));
        put(forge, 200);
        forge.cut(13);
        even(forge, 0);
        forge.encode();
        even(forge, 100);
        forge.encode();
        for (int k = 0; k < 5; k++) {
            forge.decode();
        }
        dueCounts(forge, 0, 44, 5, 5, 1, 1, 0);
        forge.linear(true);
        frame(forge, 100);
        forge.sample(3);
        due("how many it had", forge.reset(), 44);
        due("stream", forge.stream(-1), 0);
        int[] counts = {17, 0, 0, 0, 0, 0, 1};
        for (int what = 0; what <= 6; what++) {
            due("count " + what, forge.count(what), counts[what]);
            due("code " + what, forge.code(what), 0);
        }
        refused("coder", IndexOutOfBoundsException.class, () -> forge.out(false, 0));
        refused("decoder", IndexOutOfBoundsException.class, () -> forge.out(true, 0));
        refused("apart", IllegalStateException.class, forge::apart);
        refused("decode", NoSuchElementException.class, forge::decode);
        due("again", forge.reset(), 0);
        forge.encode();
        dueBytes("the input stayed, and the book", forge, 0, 147, 15);
        resetForgets();
    }

    /** After reset the same frames give the same bytes and samples as on a new object. */
    private static void resetForgets() {
        VoiceForge used = new VoiceForge();
        even(used, 1000);
        used.encode();
        used.decode();
        used.reset();
        put(used, 200);
        due("made up", used.decode(), 2);
        dueOut("the decoder's weights and memory are gone", used, true, 0, 0, 0, 0);
        used.reset();
        VoiceForge fresh = new VoiceForge();
        for (VoiceForge forge : new VoiceForge[] {used, fresh}) {
            even(forge, 96);
            forge.encode();
            forge.decode();
        }
        for (int n = 0; n < 16; n++) {
            due("coder " + n, used.out(false, n), fresh.out(false, n));
            due("decoder " + n, used.out(true, n), fresh.out(true, n));
        }
        due("bytes", used.stream(13), fresh.stream(13));
    }

    private static void apart() {
        VoiceForge forge = new VoiceForge();
        frame(forge, 16, 0, 0, 0, 0, 8);
        forge.encode();
        refused("decoder has none", IllegalStateException.class, forge::apart);
        forge.decode();
        due("alike", forge.apart(), 0.0);
        frame(forge, 16, 0, 0, 0, 0, -16);
        forge.encode();
        due("the coder is ahead", forge.apart(), 24.0);
        forge.damage(14, 0);
        forge.decode();
        due("lost", forge.apart(), 16.0);
        frame(forge, 64);
        forge.encode();
        due("in sample 0", forge.apart(), 64.0);
        VoiceForge wide = new VoiceForge();
        put(wide, withSum(with(with(PLAIN, 0, 31), 1, 30), 5, 63));
        wide.decode();
        frame(wide, 0, -32768);
        wide.encode();
        due("from end to end", wide.apart(), 65535.0);
    }

    private static void count() {
        VoiceForge forge = new VoiceForge();
        put(forge, PLAIN);
        put(forge, with(PLAIN, 13, 1));
        for (int k = 0; k < 3; k++) {
            even(forge, 0);
            forge.encode();
        }
        forge.damage(30, 5);
        forge.sample(1);
        dueCounts(forge, 1, 0, 5, 0, 0, 0, 0);
        forge.decode();
        dueCounts(forge, 1, 14, 5, 1, 0, 0, 0);
        forge.decode();
        dueCounts(forge, 1, 28, 5, 2, 0, 1, 0);
        forge.decode();
        dueCounts(forge, 1, 29, 5, 3, 1, 1, 0);
        forge.decode();
        forge.decode();
        forge.linear(true);
        dueCounts(forge, 1, 31, 5, 5, 2, 2, 1);
        for (int what : new int[] {-1, 7, Integer.MIN_VALUE, Integer.MAX_VALUE}) {
            refused("count " + what, IllegalArgumentException.class, () -> forge.count(what));
        }
    }

    private static void dueCounts(VoiceForge forge, int... want) {
        for (int what = 0; what <= 6; what++) {
            due("count " + what, forge.count(what), want[what]);
        }
    }
}
