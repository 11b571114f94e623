/** Adds the numbers of the input up to a 0, first as the program is written, then arranged for less waiting. */
public final class SumOfNumbers {
    private SumOfNumbers() {
    }

    public static void main(String[] args) {
        DelayLineStore x = new DelayLineStore();
        put(x, "start 0.0; "
                + "at 0.0; in; jzero 0.8; add 1.20; store 1.20 then 0.0; "
                + "at 0.8; load 1.20; out; stop; "
                + "at 1.20; word 0;");
        try {
            System.out.println(x.assemble() + " words");
        } catch (IllegalArgumentException e) {
            System.out.println("error " + x.errorCode() + " at byte " + x.errorPosition());
            return;
        }
        x.offerInput(3);
        x.offerInput(4);
        x.offerInput(0);
        System.out.println(x.predictTime(500) + " minor cycles as it is written");
        x.moveNext(0, 0, 2);    // jzero, behind in
        x.moveNext(0, 8, 2);    // out, behind load
        System.out.println(x.predictTime(500) + " minor cycles with two instructions moved");
        System.out.println(formatted(x, 0, 0));
        System.out.println(x.run(500) + " instructions");
        while (x.outputLength() > 0) {
            System.out.println("output " + x.takeOutput());
        }
    }

    /** Appends a text of at most 600 bytes to an empty buffer. */
    static void put(DelayLineStore x, String text) {
        for (int i = 0; i < text.length(); i += 20) {
            x.append(fourBytes(text, i), fourBytes(text, i + 4), fourBytes(text, i + 8),
                    fourBytes(text, i + 12), fourBytes(text, i + 16));
        }
        x.truncate(text.length());
    }

    private static int fourBytes(String text, int from) {
        int bytes = 0;
        for (int i = from; i < from + 4; i++) {
            bytes = bytes << 8 | (i < text.length() ? text.charAt(i) & 255 : ' ');
        }
        return bytes;
    }

    /** The instruction of a location as a text. */
    static String formatted(DelayLineStore x, int tank, int cycle) {
        StringBuilder text = new StringBuilder();
        int length = x.format(tank, cycle);
        for (int i = 0; i < length; i++) {
            text.append((char) x.formattedByte(i));
        }
        return text.toString();
    }
}
