/** The CHECK of a FRAME, by the polynomial's remainder of all its bits at once. */
final class Crc {
    private Crc() {
    }

    static int of(int[] frame) {
        long c = 0xFFFF;
        for (int i = 0; i < 22; i++) {
            for (int bit = 7; bit >= 0; bit--) {
                long in = frame[i] >> bit & 1;
                long top = c >> 15 & 1;
                c = c << 1 & 0xFFFF;
                c = top != in ? c ^ 0x1021 : c;
            }
        }
        return (int) c;
    }
}
