import java.util.Arrays;
import java.util.NoSuchElementException;

/**
 * A codec for speech in floats: frames of sixteen samples go in, packets of bytes come to a stream,
 * and are decoded again, with what is damaged made up for from what was there before.
 */
public final class VoiceForge {
    private static final int FRAME_SIZE = 16;
    private static final int ORDER = 4;
    private static final int INPUT_LIMIT = 48;
    private static final int STREAM_LIMIT = 120;

    private static final int LOWEST_SAMPLE = -32768;
    private static final int HIGHEST_SAMPLE = 32767;
    private static final int HIGHEST_CODE = 15;
    private static final int CODE_PARTS = 16;
    private static final int LOWEST_LEVEL = -4;
    private static final int HIGHEST_LEVEL = 3;
    private static final int HIGHEST_STEP_CODE = 15;

    private static final int SILENT_SIZE = 1;
    private static final int CODED_SIZE = 14;
    private static final int SILENT_BYTE = 0;
    private static final int CODED_MARK = 16;
    private static final int LINEAR_MARK = 128;
    private static final int CODES_AT = 1;
    private static final int LEVELS_AT = 5;
    private static final int SUM_AT = 13;

    private static final int SILENT = 0;
    private static final int BY_CODES = 1;
    private static final int MADE_UP = 2;

    private final float[] input = new float[INPUT_LIMIT];
    private int inputSize;
    private boolean linearBook;
    private final ByteRow row = new ByteRow();
    private final Coder coder = new Coder();
    private final Decoder decoder = new Decoder();

    public VoiceForge() {
    }

    public int sample(double v) throws IllegalArgumentException, IllegalStateException {
        // Asked this way round, so that what is no number is refused too.
        boolean inRange = v >= LOWEST_SAMPLE && v <= HIGHEST_SAMPLE;
        if (!inRange) {
            throw new IllegalArgumentException("no sample");
        }
        if (inputSize >= INPUT_LIMIT) {
            throw new IllegalStateException("the input is full");
        }
        input[inputSize] = (float) v;
        inputSize++;
        return inputSize;
    }

    public boolean linear(boolean is) {
        boolean was = linearBook;
        linearBook = is;
        return was;
    }

    public int encode() throws IllegalStateException, IndexOutOfBoundsException {
        if (inputSize < FRAME_SIZE) {
            throw new IllegalStateException("no whole frame");
        }
        int size = coder.measure(input);
        if (size > row.room()) {
            throw new IndexOutOfBoundsException("the stream is full");
        }
        if (size == SILENT_SIZE) {
            coder.tellSilence(row);
        } else {
            coder.tellFrame(input, linearBook, row);
        }
        dropFrame();
        return size;
    }

    private void dropFrame() {
        inputSize -= FRAME_SIZE;
        System.arraycopy(input, FRAME_SIZE, input, 0, inputSize);
    }

    public int decode() throws NoSuchElementException, IllegalStateException {
        if (row.ahead() == 0) {
            throw new NoSuchElementException("no byte more");
        }
        if (row.nextSize() > row.ahead()) {
            throw new IllegalStateException("the packet is cut");
        }
        return decoder.hear(row);
    }

    public double out(boolean decoder, int n) throws IndexOutOfBoundsException {
        Voice voice = decoder ? this.decoder.voice : coder.voice;
        if (n < 0 || n >= FRAME_SIZE || !voice.spoke) {
            throw new IndexOutOfBoundsException("no such sample");
        }
        return voice.spoken[n];
    }

    public int code(int what) throws IllegalArgumentException {
        Packet packet = coder.packet;
        switch (what) {
            case 0:
                return packet.stepCode;
            case 1:
            case 2:
            case 3:
            case 4:
                return packet.codes[what];
            case 5:
                return packet.greatestLevel();
            case 6:
                return (int) (packet.weights[1] * 65536);
            default:
                throw new IllegalArgumentException("no such code");
        }
    }

    public int stream(int k) throws IndexOutOfBoundsException {
        if (k == -1) {
            return row.size;
        }
        if (!row.has(k)) {
            throw new IndexOutOfBoundsException("no such byte");
        }
        return row.bytes[k];
    }

    public int damage(int k, int b) throws IllegalArgumentException, IndexOutOfBoundsException {
        if (b < 0 || b > 255) {
            throw new IllegalArgumentException("no byte");
        }
        if (!row.has(k)) {
            throw new IndexOutOfBoundsException("no such byte");
        }
        int was = row.bytes[k];
        row.bytes[k] = b;
        return was;
    }

    public int cut(int n) throws IllegalArgumentException {
        if (n < 0 || n > row.ahead()) {
            throw new IllegalArgumentException("not so many bytes");
        }
        row.size -= n;
        return row.size;
    }

    public int reset() {
        int had = row.size;
        row.empty();
        coder.forget();
        decoder.forget();
        return had;
    }

    public double apart() throws IllegalStateException {
        Voice one = decoder.voice;
        Voice other = coder.voice;
        if (!one.spoke || !other.spoke) {
            throw new IllegalStateException("no samples on one side");
        }
        float most = 0f;
        for (int n = 0; n < FRAME_SIZE; n++) {
            most = greater(most, unsigned(one.spoken[n] - other.spoken[n]));
        }
        return most;
    }

    public int count(int what) throws IllegalArgumentException {
        switch (what) {
            case 0:
                return inputSize;
            case 1:
                return row.decoded;
            case 2:
                return coder.packets;
            case 3:
                return decoder.packets;
            case 4:
                return decoder.silentPackets;
            case 5:
                return decoder.madeUpPackets;
            case 6:
                return linearBook ? 1 : 0;
            default:
                throw new IllegalArgumentException("nothing to count");
        }
    }

    private static float unsigned(float v) {
        return v < 0 ? -v : v;
    }

    private static float greater(float a, float b) {
        return a >= b ? a : b;
    }

    private static float clipped(float v) {
        if (v < LOWEST_SAMPLE) {
            return LOWEST_SAMPLE;
        }
        return v > HIGHEST_SAMPLE ? HIGHEST_SAMPLE : v;
    }

    /** 0 where the divisor is 0: that would be no number, for which the document asks 0. */
    private static float quotient(float a, float b) {
        return b == 0 ? 0f : a / b;
    }

    private static int rounded(float v, int lowest, int highest) {
        int whole = (int) (v < 0 ? v - 0.5f : v + 0.5f);
        return Math.max(lowest, Math.min(highest, whole));
    }

    /** THE STREAM: its bytes, and how many of them were decoded. */
    private static final class ByteRow {
        final int[] bytes = new int[STREAM_LIMIT];
        int size;
        int decoded;

        boolean has(int k) {
            return k >= 0 && k < size;
        }

        int room() {
            return STREAM_LIMIT - size;
        }

        int ahead() {
            return size - decoded;
        }

        void add(int b) {
            if (size < STREAM_LIMIT) {
                bytes[size] = b;
                size++;
            }
        }

        void empty() {
            size = 0;
            decoded = 0;
        }

        /** The byte k places behind those that were decoded, 0 beyond the end. */
        int next(int k) {
            int at = decoded + k;
            return has(at) ? bytes[at] : 0;
        }

        /** How many bytes the next packet has by its first one, be they there or not. */
        int nextSize() {
            return isCodedMark(next(0)) ? CODED_SIZE : SILENT_SIZE;
        }

        int nextSum() {
            int sum = 0;
            for (int k = 0; k < SUM_AT; k++) {
                sum += next(k);
            }
            return sum & 255;
        }

        boolean nextIsSound() {
            if (!isCodedMark(next(0)) || next(SUM_AT) != nextSum()) {
                return false;
            }
            for (int k = CODES_AT; k < LEVELS_AT; k++) {
                if (next(k) > 2 * HIGHEST_CODE) {
                    return false;
                }
            }
            for (int k = LEVELS_AT; k < SUM_AT; k++) {
                if (next(k) > 63) {
                    return false;
                }
            }
            return true;
        }

        private static boolean isCodedMark(int b) {
            int stepCode = (b & ~LINEAR_MARK) - CODED_MARK;
            return stepCode >= 0 && stepCode <= HIGHEST_STEP_CODE;
        }
    }

    /** What a packet that is not silent tells; codes and weights are used from place 1 on. */
    private static final class Packet {
        boolean linearSteps;
        int stepCode;
        final int[] codes = new int[ORDER + 1];
        final float[] weights = new float[ORDER + 1];
        final int[] levels = new int[FRAME_SIZE];

        void clear() {
            linearSteps = false;
            stepCode = 0;
            Arrays.fill(codes, 0);
            Arrays.fill(weights, 0f);
            Arrays.fill(levels, 0);
        }

        /** Takes code i, those below it being there already, into the weights; answers its q. */
        float takeCode(int i, int c) {
            float q = (float) c / CODE_PARTS;
            // From both ends at once: each of a pair needs the other as it was before.
            for (int j = 1; j <= i - j; j++) {
                float low = weights[j];
                float high = weights[i - j];
                weights[j] = low - q * high;
                weights[i - j] = high - q * low;
            }
            codes[i] = c;
            weights[i] = q;
            return q;
        }

        float step() {
            return stepOf(stepCode);
        }

        void chooseStep(float most) {
            int g = 0;
            while (g < HIGHEST_STEP_CODE && 3 * stepOf(g) < most) {
                g++;
            }
            stepCode = g;
        }

        private float stepOf(int g) {
            return linearSteps ? (float) (16 * g + 1) : (float) (1 << g) / 4;
        }

        int greatestLevel() {
            int most = 0;
            for (int n = 0; n < FRAME_SIZE; n++) {
                most = Math.max(most, Math.abs(levels[n]));
            }
            return most;
        }

        void write(ByteRow row) {
            int first = CODED_MARK + stepCode + (linearSteps ? LINEAR_MARK : 0);
            row.add(first);
            int sum = first;
            for (int i = 1; i <= ORDER; i++) {
                int b = codes[i] + HIGHEST_CODE;
                row.add(b);
                sum += b;
            }
            for (int n = 0; n < FRAME_SIZE; n += 2) {
                int b = 8 * (levels[n] - LOWEST_LEVEL) + levels[n + 1] - LOWEST_LEVEL;
                row.add(b);
                sum += b;
            }
            row.add(sum & 255);
        }

        /** Reads the next packet of the row, which must be sound. */
        void read(ByteRow row) {
            int first = row.next(0);
            linearSteps = first >= LINEAR_MARK;
            stepCode = (first & ~LINEAR_MARK) - CODED_MARK;
            for (int i = 1; i <= ORDER; i++) {
                takeCode(i, row.next(CODES_AT + i - 1) - HIGHEST_CODE);
            }
            for (int n = 0; n < FRAME_SIZE; n += 2) {
                int b = row.next(LEVELS_AT + n / 2);
                levels[n] = b / 8 + LOWEST_LEVEL;
                levels[n + 1] = b % 8 + LOWEST_LEVEL;
            }
        }
    }

    /** What coder and decoder have alike: the MEMORY, and the 16 samples that came out latest. */
    private static final class Voice {
        final float[] memory = new float[ORDER];
        final float[] spoken = new float[FRAME_SIZE];
        boolean spoke;

        void forget() {
            fallSilent();
            spoke = false;
        }

        void fallSilent() {
            Arrays.fill(memory, 0f);
            Arrays.fill(spoken, 0f);
            spoke = true;
        }

        float foretell(float[] weights) {
            float p = 0f;
            for (int j = 1; j <= ORDER; j++) {
                p += weights[j] * memory[j - 1];
            }
            return p;
        }

        void speak(int n, float v) {
            float y = clipped(v);
            spoken[n] = y;
            for (int j = ORDER - 1; j > 0; j--) {
                memory[j] = memory[j - 1];
            }
            memory[0] = y;
            spoke = true;
        }
    }

    private static final class Coder {
        final Voice voice = new Voice();
        final Packet packet = new Packet();
        int packets;
        private final float[] likeness = new float[ORDER + 1];

        void forget() {
            voice.forget();
            packet.clear();
            packets = 0;
        }

        /** Answers how many bytes the frame's packet will have; nothing that can be asked for changes. */
        int measure(float[] x) {
            for (int k = 0; k <= ORDER; k++) {
                float sum = 0f;
                for (int n = k; n < FRAME_SIZE; n++) {
                    sum += x[n] * x[n - k];
                }
                likeness[k] = sum;
            }
            return likeness[0] < 1 ? SILENT_SIZE : CODED_SIZE;
        }

        void tellSilence(ByteRow row) {
            voice.fallSilent();
            row.add(SILENT_BYTE);
            packets++;
        }

        /** Codes a frame that was measured. */
        void tellFrame(float[] x, boolean linearSteps, ByteRow row) {
            packet.linearSteps = linearSteps;
            chooseCodes();
            packet.chooseStep(greatestRest(x));
            chooseLevels(x);
            packet.write(row);
            packets++;
        }

        private void chooseCodes() {
            float energy = likeness[0];
            for (int i = 1; i <= ORDER; i++) {
                float s = likeness[i];
                for (int j = 1; j < i; j++) {
                    s -= packet.weights[j] * likeness[i - j];
                }
                float k = quotient(s, energy);
                float q = packet.takeCode(i, rounded(k * CODE_PARTS, -HIGHEST_CODE, HIGHEST_CODE));
                energy *= 1 - q * q;
            }
        }

        private float greatestRest(float[] x) {
            float most = 0f;
            for (int n = 0; n < FRAME_SIZE; n++) {
                float p = 0f;
                for (int j = 1; j <= ORDER && j <= n; j++) {
                    p += packet.weights[j] * x[n - j];
                }
                most = greater(most, unsigned(x[n] - p));
            }
            return most;
        }

        private void chooseLevels(float[] x) {
            float step = packet.step();
            for (int n = 0; n < FRAME_SIZE; n++) {
                float p = voice.foretell(packet.weights);
                int level = rounded(quotient(x[n] - p, step), LOWEST_LEVEL, HIGHEST_LEVEL);
                packet.levels[n] = level;
                voice.speak(n, p + level * step);
            }
        }
    }

    private static final class Decoder {
        final Voice voice = new Voice();
        final Packet packet = new Packet();
        int packets;
        int silentPackets;
        int madeUpPackets;

        void forget() {
            voice.forget();
            packet.clear();
            packets = 0;
            silentPackets = 0;
            madeUpPackets = 0;
        }

        /** Decodes the next packet of the row, all of whose bytes must be there; answers its kind. */
        int hear(ByteRow row) {
            int size = row.nextSize();
            int kind = MADE_UP;
            if (row.next(0) == SILENT_BYTE) {
                kind = SILENT;
                silentPackets++;
                voice.fallSilent();
            } else if (row.nextIsSound()) {
                kind = BY_CODES;
                packet.read(row);
                speakByLevels();
            } else {
                madeUpPackets++;
                makeUp();
            }
            row.decoded += size;
            packets++;
            return kind;
        }

        private void speakByLevels() {
            float step = packet.step();
            for (int n = 0; n < FRAME_SIZE; n++) {
                voice.speak(n, voice.foretell(packet.weights) + packet.levels[n] * step);
            }
        }

        /** The packet is still the latest that was sound: a damaged one is never read into it. */
        private void makeUp() {
            for (int n = 0; n < FRAME_SIZE; n++) {
                voice.speak(n, voice.foretell(packet.weights) * 0.875f);
            }
        }
    }
}
