import java.io.IOException;
import java.nio.file.Files;
import java.nio.file.Path;

/** Counts the calls whose answer is not the one that is due, and ends the test. */
final class Checks {
    private static final Path DOCUMENT = Path.of("../shared/DOC.md");

    private final String name;
    private int wrong;
    private int checked;
    private String sentence = "";
    private int sentences;
    private int checkedBefore;

    Checks(String name) {
        this.name = name;
    }

    void due(String call, long got, long want) {
        checked++;
        if (got != want) {
            wrong++;
            if (wrong <= 40) {
                System.out.println(name + ": " + call + " answered " + got + ", due is " + want + sentence);
            }
        }
    }

    /** The answers looked at from here on are what this sentence of the document asks for. */
    void sentence(String quoted) {
        endSentence();
        sentence = " (\"" + quoted + "\")";
        sentences++;
        if (!isInDocument(quoted)) {
            System.out.println(name + ": the document no longer says" + sentence);
        }
    }

    // A sentence that nothing is looked at for has no test.
    private void endSentence() {
        if (sentences != 0 && checked == checkedBefore) {
            wrong++;
            System.out.println(name + ": no answer is looked at" + sentence);
        }
        checkedBefore = checked;
    }

    private static boolean isInDocument(String quoted) {
        try {
            return !Files.exists(DOCUMENT) || plain(Files.readString(DOCUMENT)).contains(plain(quoted));
        } catch (IOException e) {
            return true;
        }
    }

    private static String plain(String text) {
        return text.replaceAll("[\\s`]+", " ").trim();
    }

    void finish() {
        endSentence();
        String of = sentences == 0 ? "" : " of " + sentences + " sentences";
        System.out.println(name + ": " + checked + " answers" + of + " looked at, " + wrong + " not as due");
        if (wrong != 0 || checked == 0) {
            System.exit(1);
        }
    }

    /** Feeds all bytes, eight a call; answers what the last call did. */
    static int feed(ReportBlocks x, int... bytes) {
        int answer = x.count(5);
        for (int i = 0; i < bytes.length; i += 8) {
            int n = Math.min(8, bytes.length - i);
            long value = 0;
            for (int j = i; j < i + n; j++) {
                value = value << 8 | (bytes[j] & 0xFF);
            }
            answer = x.feed(value, n);
        }
        return answer;
    }

    /** A block of a category with its length put in. */
    static int[] block(int number, int... rest) {
        int[] all = new int[rest.length + 3];
        all[0] = number;
        all[1] = all.length >> 8;
        all[2] = all.length & 0xFF;
        System.arraycopy(rest, 0, all, 3, rest.length);
        return all;
    }

    static int readBlock(ReportBlocks x, int number, int... rest) {
        x.tear();
        feed(x, block(number, rest));
        return x.read();
    }

    /** Looks whether the tape has just these bytes. */
    void tapeIs(String when, ReportBlocks x, int... bytes) {
        due(when + ": count(5)", x.count(5), bytes.length);
        for (int i = 0; i < bytes.length; i++) {
            due(when + ": tape(" + i + ")", x.tape(i), bytes[i]);
        }
        due(when + ": tape behind", x.tape(bytes.length), ReportBlocks.NONE);
    }

    /**
     * Category 48 at place 0: 1 FIXED 2, 2 FIXED 4, 3 GOING, 4 AGAIN 2, 5 MADE (parts 0: 1 byte,
     * 2: 3 bytes, 8: 2 bytes, 13: 4 bytes), 9 FIXED 8, 15 AGAIN 4, 21 FIXED 1; not told yet.
     */
    static ReportBlocks usual() {
        ReportBlocks x = new ReportBlocks();
        x.category(48);
        x.item(0, 1, 0, 2);
        x.item(0, 2, 0, 4);
        x.item(0, 3, 1, 0);
        x.item(0, 4, 2, 2);
        x.item(0, 5, 3, 0);
        x.part(0, 5, 0, 1);
        x.part(0, 5, 2, 3);
        x.part(0, 5, 8, 2);
        x.part(0, 5, 13, 4);
        x.item(0, 9, 0, 8);
        x.item(0, 15, 2, 4);
        x.item(0, 21, 0, 1);
        return x;
    }
}
