/** Puts texts into the buffer of a store, and reads them back from it. */
final class Texts {
    private Texts() {
    }

    static void put(DelayLineStore x, String text) {
        int before = x.append(0, 0, 0, 0, 0) - 20;
        x.truncate(before);
        int[] quad = new int[5];
        for (int from = 0; from < text.length(); from += 20) {
            for (int i = 0; i < 5; i++) {
                quad[i] = fourBytes(text, from + 4 * i);
            }
            x.append(quad[0], quad[1], quad[2], quad[3], quad[4]);
        }
        x.truncate(before + text.length());
    }

    static int fourBytes(String text, int from) {
        int bytes = 0;
        for (int i = from; i < from + 4; i++) {
            bytes = bytes << 8 | (i < text.length() ? text.charAt(i) & 255 : 0);
        }
        return bytes;
    }

    static int assemble(DelayLineStore x, String text) {
        put(x, text);
        return x.assemble();
    }

    static DelayLineStore computerWith(String text) {
        DelayLineStore x = new DelayLineStore();
        assemble(x, text);
        return x;
    }

    static String formatted(DelayLineStore x, int tank, int cycle) {
        int length = x.format(tank, cycle);
        StringBuilder text = new StringBuilder();
        for (int i = 0; i < length; i++) {
            text.append((char) x.formattedByte(i));
        }
        return text.toString();
    }
}
