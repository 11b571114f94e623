/** Puts texts into the buffer of a store, and reads them back from it. */
final class Texts {
    private Texts() {
    }

    static void put(DelayLineStore x, String text) {
        int before = x.append(0, 0, 0, 0, 0) - 20;
        x.truncate(before);
        int[] quad = new int[5];
        for (int from = 0; from < text.length(); from += 20) {
            for (int i = 0; i < 5; i++) {
                quad[i] = fourBytes(text, from + 4 * i);
            }
            x.append(quad[0], quad[1], quad[2], quad[3], quad[4]);
        }
        x.truncate(before + text.length());
    }

    static int fourBytes(String text, int from) {
        int bytes = 0;
        for (int i = from; i < from + 4; i++) {
            bytes = bytes << 8 | (i < text.length() ? text.charAt(i) & 255 : 0);
        }
        return bytes;
    }

    static int assemble(DelayLineStore x, String text) {
        put(x, text);
        return x.assemble();
    }

    static DelayLineStore computerWith(String text) {
        DelayLineStore x = new DelayLineStore();
        assemble(x, text);
        return x;
    }

    static String formatted(DelayLineStore x, int tank, int cycle) {
        int length = x.format(tank, cycle);
        StringBuilder text = new StringBuilder();
        for (int i = 0; i < length; i++) {
            text.append((char) x.formattedByte(i));
        }
        return text.toString();
    }

    static int word(int opcode, int tank, int cycle, int nextTank, int nextCycle) {
        int word = opcode | tank << 4 | cycle << 7 | nextTank << 12 | nextCycle << 15;
        return word >= 524288 ? word - 1048576 : word;
    }

    /** A text that is assembled into a number of words. */
    static void good(String text, int words) {
        DelayLineStore x = new DelayLineStore();
        put(x, text);
        try {
            Check.due("assemble \"" + text + "\"", x.assemble(), words);
        } catch (IllegalArgumentException e) {
            Check.fault("assemble \"" + text + "\" refused at " + x.errorPosition());
        }
        Check.due("errorCode of \"" + text + "\"", x.errorCode(), 0);
        Check.due("errorPosition of \"" + text + "\"", x.errorPosition(), -1);
    }

    /** A text that is refused with a code and a position. */
    static void bad(String text, int code, int position) {
        DelayLineStore x = new DelayLineStore();
        put(x, text);
        Check.badArgument("assemble \"" + text + "\"", () -> x.assemble());
        Check.due("errorCode of \"" + text + "\"", x.errorCode(), code);
        Check.due("errorPosition of \"" + text + "\"", x.errorPosition(), position);
    }
}
