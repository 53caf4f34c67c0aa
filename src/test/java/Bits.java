import java.io.ByteArrayOutputStream;

/** Writes packed rows bit by bit, also such with faults. */
final class Bits {
    private final ByteArrayOutputStream bytes = new ByteArrayOutputStream();
    private int held = 0;
    private int count = 0;

    static Bits packed() {
        return new Bits().number(120, 8).number(156, 8);
    }

    static Bits padded() {
        return packed().pad(6);
    }

    /** Parts without bytes, which make the row longer, as those are that put() makes of many bytes. */
    Bits pad(int parts) {
        for (int i = 0; i < parts; i++) {
            stored(false, new byte[0]);
        }
        return this;
    }

    Bits bit(int bit) {
        held |= (bit & 1) << count;
        count++;
        if (count == 8) {
            bytes.write(held);
            held = 0;
            count = 0;
        }
        return this;
    }

    Bits number(int value, int bits) {
        for (int i = 0; i < bits; i++) {
            bit(value >> i);
        }
        return this;
    }

    Bits code(String code) {
        for (int i = 0; i < code.length(); i++) {
            bit(code.charAt(i) - '0');
        }
        return this;
    }

    Bits part(boolean last, int sort) {
        return bit(last ? 1 : 0).number(sort, 2);
    }

    /** Bits up to the end of a byte, all of them the same. */
    Bits endByte(int bit) {
        while (count > 0) {
            bit(bit);
        }
        return this;
    }

    Bits endByte() {
        return endByte(0);
    }

    /** Bits up to the end of a byte: the first one as said, the others 0. */
    Bits lastBits(int first) {
        return count > 0 ? bit(first).endByte() : this;
    }

    Bits stored(boolean last, byte[] data) {
        part(last, 0).endByte().number(data.length, 16).number(65535 - data.length, 16);
        for (byte b : data) {
            number(b, 8);
        }
        return this;
    }

    /** A symbol by its fixed code. */
    Bits fixed(int symbol) {
        if (symbol < 144) {
            return high(48 + symbol, 8);
        }
        if (symbol < 256) {
            return high(400 + symbol - 144, 9);
        }
        return symbol < 280 ? high(symbol - 256, 7) : high(192 + symbol - 280, 8);
    }

    Bits fixedText(String text) {
        for (int i = 0; i < text.length(); i++) {
            fixed(text.charAt(i));
        }
        return this;
    }

    Bits fixedDistance(int distance) {
        return high(distance, 5);
    }

    /** The number of bytes back, as a distance's fixed code and the bits behind it. */
    Bits fixedBack(int distance) {
        int d = 0;
        while (d < 29 && Model.distanceBaseAndBits(d + 1)[0] <= distance) {
            d++;
        }
        int[] base = Model.distanceBaseAndBits(d);
        return fixedDistance(d).number(distance - base[0], base[1]);
    }

    /** A byte so often, by itself once and then by matches of one back. */
    Bits fixedRun(int b, int n) {
        int left = n;
        if (left > 0) {
            fixed(b);
            left--;
        }
        for (int s = 285; s > 256; s--) {
            int[] base = Model.lengthBaseAndBits(s);
            for (; left >= base[0]; left -= base[0]) {
                fixed(s).number(0, base[1]).fixedDistance(0);
            }
        }
        for (; left > 0; left--) {
            fixed(b);
        }
        return this;
    }

    Bits high(int code, int length) {
        for (int i = length - 1; i >= 0; i--) {
            bit(code >> i);
        }
        return this;
    }

    byte[] check(byte[] made) {
        return check(adler(made));
    }

    byte[] check(int check) {
        endByte();
        for (int i = 3; i >= 0; i--) {
            number(check >>> 8 * i, 8);
        }
        return bytes.toByteArray();
    }

    byte[] bytes() {
        endByte();
        return bytes.toByteArray();
    }

    static int adler(byte[] made) {
        long a = 1;
        long b = 0;
        for (byte each : made) {
            a = (a + (each & 255)) % 65521;
            b = (b + a) % 65521;
        }
        return (int) (65536 * b + a);
    }
}
