/** Frames and packets that the tests put into a forge. */
final class Bench {
    /** A packet in the doubling book: step 4, no codes, level 3 for sample 0 and 0 for the others. */
    private static final int[] PLAIN = {20, 15, 15, 15, 15, 60, 36, 36, 36, 36, 36, 36, 36, 136};

    private Bench() {
    }

    static int[] plain() {
        return PLAIN.clone();
    }

    /** A frame with the values given from its start on, and 0 behind them. */
    static void frame(VoiceForge forge, double... values) {
        for (int n = 0; n < 16; n++) {
            forge.sample(n < values.length ? values[n] : 0.0);
        }
    }

    static void even(VoiceForge forge, double value) {
        samples(forge, 16, value);
    }

    static void samples(VoiceForge forge, int many, double value) {
        for (int n = 0; n < many; n++) {
            forge.sample(value);
        }
    }

    /** A new forge with this frame coded. */
    static VoiceForge coded(double... values) {
        return codedBy(false, values);
    }

    static VoiceForge codedBy(boolean linear, double... values) {
        VoiceForge forge = new VoiceForge();
        forge.linear(linear);
        frame(forge, values);
        forge.encode();
        return forge;
    }

    static void silence(VoiceForge forge) {
        even(forge, 0);
        forge.encode();
    }

    /** Puts a packet of 14 bytes on the stream, coded from some frame and then overwritten. */
    static void put(VoiceForge forge, int... packet) {
        int start = forge.stream(-1);
        frame(forge, 16);
        forge.encode();
        for (int k = 0; k < packet.length; k++) {
            forge.damage(start + k, packet[k]);
        }
    }

    /** Puts one byte alone on the stream. */
    static void putByte(VoiceForge forge, int b) {
        silence(forge);
        forge.damage(forge.stream(-1) - 1, b);
    }

    /** A new forge whose stream has these packets. */
    static VoiceForge holding(int[]... packets) {
        VoiceForge forge = new VoiceForge();
        for (int[] packet : packets) {
            put(forge, packet);
        }
        return forge;
    }

    /**
     * A new forge whose stream has so many bytes: packets of 14, the last one cut if need be, and
     * behind the eighth silent ones. It takes no more than 272 calls of the 512 that an object has.
     */
    static VoiceForge filled(int bytes) {
        VoiceForge forge = new VoiceForge();
        int size = 0;
        while (size < bytes && size < 112) {
            frame(forge, 16);
            size += forge.encode();
        }
        if (size > bytes) {
            size = forge.cut(size - bytes);
        }
        while (size < bytes) {
            even(forge, 0);
            size += forge.encode();
        }
        return forge;
    }

    static int[] with(int[] packet, int k, int b) {
        int[] changed = packet.clone();
        changed[k] = b;
        return changed;
    }

    /** As with, but the sum is right for the changed packet. */
    static int[] withSum(int[] packet, int k, int b) {
        return summed(with(packet, k, b));
    }

    static int[] summed(int... packet) {
        int sum = 0;
        for (int at = 0; at < 13; at++) {
            sum += packet[at];
        }
        return with(packet, 13, sum % 256);
    }
}
