/** Promises 49 to 52: sheet, write, read, copy. */
public final class SheetsTest {
    private static final Due due = new Due();

    public static void main(String[] args) {
        sheet();
        write();
        copy();
        copyFindings();
        emptyAndFull();
        due.end();
    }

    private static void sheet() {
        GhostCoast x = new GhostCoast();
        due.is("sheet", x.sheet(0, 8, 20), 20);
        due.is("number 19", x.read(0, 19), 0);
        due.is("number 20", x.read(0, 20), Due.BEYOND);
        due.is("number -1", x.read(0, -1), Due.BEYOND);
        due.is("sheet of no numbers", x.sheet(3, 32, 0), 0);
        due.is("it is not missing", x.read(3, 0), Due.BEYOND);
        due.is("sheet -1", x.sheet(-1, 8, 1), Due.BEYOND);
        due.is("sheet 4", x.sheet(4, 8, 1), Due.BEYOND);
        due.is("bits 16", x.sheet(0, 16, 1), Due.BEYOND);
        due.is("bits -8", x.sheet(0, -8, 1), Due.BEYOND);
        due.is("bits wrong, n below 0", x.sheet(0, 1, -1), Due.BEYOND);
        due.is("n -1", x.sheet(0, 8, -1), Due.SIZE);
        due.is("n 21", x.sheet(0, 8, 21), Due.BEYOND);
        due.is("missing, n -1", x.sheet(0, 0, -1), Due.SIZE);
        due.is("missing, n 21", x.sheet(0, 0, 21), Due.BEYOND);
        x.write(0, 3, 7);
        due.is("as it was", x.read(0, 3), 7);
        due.is("missing", x.sheet(0, 0, 20), 0);
        due.is("it is missing", x.read(0, 3), Due.MISSING);
        due.is("anew", x.sheet(0, 8, 4), 4);
        due.is("all 0", x.read(0, 3), 0);
        x.write(0, 3, 7);
        x.sheet(0, 32, 4);
        due.is("all 0 again", x.read(0, 3), 0);
        due.is("read -1", x.read(-1, 0), Due.BEYOND);
        due.is("read 4", x.read(4, 0), Due.BEYOND);
        due.is("read of a missing one", x.read(1, -1), Due.MISSING);
    }

    private static void write() {
        GhostCoast x = new GhostCoast();
        due.is("write to a missing one", x.write(0, 0, 0), Due.MISSING);
        x.sheet(0, 8, 2);
        x.sheet(1, 32, 2);
        int[] values = {0, 1, 127, 128, 255, 256, -1, -128, -129, 999, 9999, -9999};
        int[] bytes = {0, 1, 127, -128, -1, 0, -1, -128, 127, -25, 15, -15};
        for (int i = 0; i < values.length; i++) {
            due.is("write a byte", x.write(0, 1, values[i]), 1);
            due.is("byte of " + values[i], x.read(0, 1), bytes[i]);
            due.is("write a float", x.write(1, 1, values[i]), 1);
            due.is("float of " + values[i], x.read(1, 1), values[i]);
        }
        due.is("the other one", x.read(0, 0), 0);
        due.is("write -1", x.write(-1, 0, 0), Due.BEYOND);
        due.is("write 4", x.write(4, 0, 0), Due.BEYOND);
        due.is("number -1", x.write(0, -1, 0), Due.BEYOND);
        due.is("number 2", x.write(0, 2, 0), Due.BEYOND);
        due.is("10000", x.write(1, 0, 10000), Due.BEYOND);
        due.is("-10000", x.write(1, 0, -10000), Due.BEYOND);
        due.is("a missing one, wrong number", x.write(2, 9, 10000), Due.MISSING);
    }

    private static void numbers(GhostCoast x, int s, int... want) {
        for (int i = 0; i < want.length; i++) due.is("number " + i, x.read(s, i), want[i]);
    }

    private static void copy() {
        GhostCoast x = new GhostCoast();
        x.sheet(0, 32, 5);
        x.sheet(1, 32, 3);
        for (int i = 0; i < 5; i++) x.write(0, i, i == 4 ? 999 : 10 + i);
        due.is("copy", x.copy(0, 3, 1, 1, 2), 2);
        numbers(x, 1, 0, 13, 999);
        due.is("copy behind itself", x.copy(0, 0, 0, 1, 4), 4);
        numbers(x, 0, 10, 10, 11, 12, 13);
        due.is("copy ahead of itself", x.copy(0, 2, 0, 0, 3), 3);
        numbers(x, 0, 11, 12, 13, 12, 13);
        due.is("copy nothing", x.copy(0, 0, 1, 0, 0), 0);
        due.is("copy nothing at the ends", x.copy(0, 5, 1, 3, 0), 0);
        numbers(x, 1, 0, 13, 999);
    }

    /** Sheets of no numbers, which are not missing, and of twenty. */
    private static void emptyAndFull() {
        for (int bits : new int[] {8, 32}) {
            GhostCoast x = new GhostCoast();
            due.is("empty", x.sheet(0, bits, 0), 0);
            due.is("empty", x.sheet(3, bits, 0), 0);
            due.is("read of an empty one", x.read(0, 0), Due.BEYOND);
            due.is("write to an empty one", x.write(0, 0, 0), Due.BEYOND);
            due.is("copy of an empty one", x.copy(0, 0, 3, 0, 0), 0);
            due.is("copy of an empty one to itself", x.copy(0, 0, 0, 0, 0), 0);
            due.is("copy one number", x.copy(0, 0, 3, 0, 1), Due.BEYOND);
            due.is("copy from place 1", x.copy(0, 1, 3, 0, 0), Due.BEYOND);
            due.is("film of an empty one with no shows", x.film(0, 0), 0);
            x.tick(24);
            due.is("check of an empty one", x.check(0, 0), Due.SIZE);
            due.is("full", x.sheet(1, bits, 20), 20);
            due.is("full", x.sheet(2, bits, 20), 20);
            for (int i = 0; i < 20; i++) due.is("write", x.write(1, i, i - 10), 1);
            due.is("copy all", x.copy(1, 0, 2, 0, 20), 20);
            for (int i = 0; i < 20; i++) due.is("number " + i, x.read(2, i), i - 10);
            due.is("copy from place 20", x.copy(1, 20, 2, 20, 0), 0);
            due.is("copy from place 21", x.copy(1, 21, 2, 20, 0), Due.BEYOND);
            due.is("copy to place 21", x.copy(1, 20, 2, 21, 0), Due.BEYOND);
            due.is("copy 21", x.copy(1, 0, 2, 0, 21), Due.BEYOND);
            due.is("to an empty one none", x.copy(1, 20, 3, 0, 0), 0);
            due.is("to an empty one", x.copy(1, 19, 3, 0, 1), Due.BEYOND);
            due.is("as they were by one", x.copy(2, 0, 2, 1, 19), 19);
            for (int i = 0; i < 20; i++) due.is("number " + i + " then", x.read(2, i), Math.max(0, i - 1) - 10);
            due.is("back by one", x.copy(2, 1, 2, 0, 19), 19);
            for (int i = 0; i < 20; i++) due.is("number " + i + " at last", x.read(2, i), Math.min(18, i) - 10);
            due.is("a film of more than there are shows", x.film(1, 0), Due.BEYOND);
        }
    }

    private static void copyFindings() {
        GhostCoast x = new GhostCoast();
        x.sheet(0, 8, 5);
        x.sheet(1, 8, 3);
        x.sheet(2, 32, 5);
        due.is("from -1st sheet", x.copy(-1, 0, 0, 0, 0), Due.BEYOND);
        due.is("from sheet 4", x.copy(4, 0, 0, 0, 0), Due.BEYOND);
        due.is("to sheet -1", x.copy(0, 0, -1, 0, 0), Due.BEYOND);
        due.is("to sheet 4", x.copy(3, 0, 4, 0, 0), Due.BEYOND);
        due.is("from a missing one", x.copy(3, 0, 0, 0, 0), Due.MISSING);
        due.is("to a missing one", x.copy(2, -1, 3, 0, 0), Due.MISSING);
        due.is("of other bits", x.copy(0, -1, 2, 0, 0), Due.KIND);
        due.is("from -1", x.copy(0, -1, 1, 0, 1), Due.BEYOND);
        due.is("to -1", x.copy(0, 0, 1, -1, 1), Due.BEYOND);
        due.is("n -1", x.copy(0, 0, 1, 0, -1), Due.BEYOND);
        due.is("one too many to come from", x.copy(1, 1, 0, 0, 3), Due.BEYOND);
        due.is("one too many to come to", x.copy(0, 0, 1, 1, 3), Due.BEYOND);
        due.is("nothing from behind the end", x.copy(1, 4, 0, 0, 0), Due.BEYOND);
        due.is("nothing to behind the end", x.copy(0, 0, 1, 4, 0), Due.BEYOND);
        due.is("most", x.copy(0, 1, 1, 1, Integer.MAX_VALUE), Due.BEYOND);
        due.is("most from", x.copy(0, Integer.MAX_VALUE, 1, 0, 1), Due.BEYOND);
    }
}
