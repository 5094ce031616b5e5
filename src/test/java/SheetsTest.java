/** Promises 28 to 31: sheet, put, copy, lay. */
public final class SheetsTest {
    public static void main(String[] args) {
        sheet();
        put();
        lowestBits();
        copy();
        copyWrong();
        lay();
        layEdges();
        layIsFull();
        Due.end();
    }

    /** Numbers can only be seen by laying them: minutes of DAYS from 0 on. */
    private static void numbersAre(String what, HoursDesk x, int s, int... want) {
        int came = 0;
        for (int v : want) {
            came += v >= 0 && v <= 900 ? 1 : 0;
        }
        Due.is(what + ": came", x.lay(0, 0, s), came);
        for (int i = 0; i < want.length; i++) {
            int minutes = want[i] >= 0 && want[i] <= 900 ? Math.min(want[i], 480) : 0;
            Due.is(what + ": number " + i, x.countedOn(0, i, i), minutes);
        }
        Due.is(what + ": no more", x.counted(0, 364, 364) - x.counted(0, want.length - 1, 364), 0);
        x.undo();
    }

    private static HoursDesk withOne() {
        HoursDesk x = new HoursDesk();
        x.person(0, 300, 127, 0, 10);
        return x;
    }

    private static void sheet() {
        HoursDesk x = withOne();
        Due.is("28: sheet 4", x.sheet(4, 8, 0), Due.BEYOND);
        Due.is("28: sheet -1", x.sheet(-1, 8, 0), Due.BEYOND);
        for (int bits : new int[] {-8, 1, 7, 9, 24, 64}) {
            Due.is("28: bits " + bits, x.sheet(0, bits, 0), Due.BEYOND);
        }
        Due.is("28: n -1", x.sheet(0, 8, -1), Due.SIZE);
        Due.is("28: n 21", x.sheet(0, 8, 21), Due.BEYOND);
        Due.is("28: bits ahead of size", x.sheet(0, 9, -1), Due.BEYOND);
        Due.is("28: sheet ahead of size", x.sheet(4, 8, -1), Due.BEYOND);
        Due.is("28: lowest n", x.sheet(0, 32, Integer.MIN_VALUE), Due.SIZE);
        Due.is("28: still missing", x.put(0, 0, 1), Due.MISSING);
        Due.is("28: 20 numbers", x.sheet(0, 8, 20), 20);
        Due.is("28: last", x.put(0, 19, 7), 0);
        Due.is("28: no numbers", x.sheet(1, 16, 0), 0);
        Due.is("28: none there", x.put(1, 0, 1), Due.BEYOND);
        Due.is("28: laid", x.lay(0, 364, 1), 0);
        Due.is("28: anew", x.sheet(0, 8, 20), 20);
        numbersAre("28: all 0", x, 0, new int[20]);
        Due.is("28: missing, size asked", x.sheet(0, 0, -1), Due.SIZE);
        Due.is("28: missing, most asked", x.sheet(0, 0, 21), Due.BEYOND);
        Due.is("28: not missing yet", x.put(0, 0, 1), 0);
        Due.is("28: missing again", x.sheet(0, 0, 5), 0);
        Due.is("28: is missing", x.put(0, 0, 1), Due.MISSING);
        Due.is("28: missing is missing", x.sheet(0, 0, 0), 0);
        Due.is("28: third", x.sheet(3, 32, 1), 1);
    }

    private static void put() {
        HoursDesk x = withOne();
        x.sheet(2, 32, 3);
        Due.is("29: sheet 4", x.put(4, 0, 0), Due.BEYOND);
        Due.is("29: sheet -1", x.put(-1, 0, 0), Due.BEYOND);
        Due.is("29: missing ahead of number", x.put(0, 99, 0), Due.MISSING);
        Due.is("29: number 3", x.put(2, 3, 0), Due.BEYOND);
        Due.is("29: number -1", x.put(2, -1, 0), Due.BEYOND);
        Due.is("29: first", x.put(2, 0, 11), 0);
        Due.is("29: last", x.put(2, 2, 33), 0);
        numbersAre("29: put", x, 2, 11, 0, 33);
        x.put(2, 0, 12);
        numbersAre("29: put again", x, 2, 12, 0, 33);
    }

    private static void lowestBits() {
        HoursDesk x = withOne();
        x.sheet(0, 8, 5);
        x.put(0, 0, 127);
        x.put(0, 1, 128);
        x.put(0, 2, 255);
        x.put(0, 3, 256 + 5);
        x.put(0, 4, -256);
        numbersAre("29: 8 bits", x, 0, 127, -128, -1, 5, 0);
        x.sheet(0, 16, 5);
        x.put(0, 0, 300);
        x.put(0, 1, 32768 + 5);
        x.put(0, 2, 65536 + 900);
        x.put(0, 3, -65536 + 12);
        x.put(0, 4, 65535);
        numbersAre("29: 16 bits", x, 0, 300, -32763, 900, 12, -1);
        x.sheet(0, 32, 3);
        x.put(0, 0, 65536 + 900);
        x.put(0, 1, 480);
        x.put(0, 2, Integer.MIN_VALUE);
        numbersAre("29: 32 bits", x, 0, 65536 + 900, 480, Integer.MIN_VALUE);
    }

    private static HoursDesk withFive() {
        HoursDesk x = withOne();
        x.sheet(0, 16, 5);
        for (int i = 0; i < 5; i++) {
            x.put(0, i, 10 + i);
        }
        return x;
    }

    private static void copy() {
        HoursDesk x = withFive();
        Due.is("30: forward", x.copy(0, 0, 0, 1, 4), 4);
        numbersAre("30: forward", x, 0, 10, 10, 11, 12, 13);
        x = withFive();
        Due.is("30: back", x.copy(0, 1, 0, 0, 4), 4);
        numbersAre("30: back", x, 0, 11, 12, 13, 14, 14);
        x.sheet(3, 16, 3);
        Due.is("30: to another", x.copy(0, 3, 3, 1, 2), 2);
        numbersAre("30: to another", x, 3, 0, 14, 14);
        numbersAre("30: the first stays", x, 0, 11, 12, 13, 14, 14);
        Due.is("30: nothing", x.copy(0, 5, 3, 3, 0), 0);
        Due.is("30: all", x.copy(3, 0, 3, 0, 3), 3);
        x.put(0, 3, 1);
        numbersAre("30: a copy is apart", x, 3, 0, 14, 14);
    }

    private static void copyWrong() {
        HoursDesk x = withFive();
        x.sheet(1, 16, 3);
        x.sheet(2, 8, 5);
        Due.is("30: sheet 4", x.copy(4, 0, 0, 0, 0), Due.BEYOND);
        Due.is("30: to sheet 4", x.copy(0, 0, 4, 0, 0), Due.BEYOND);
        Due.is("30: sheet -1", x.copy(-1, 0, 0, 0, 0), Due.BEYOND);
        Due.is("30: beyond ahead of missing", x.copy(3, 0, 4, 0, 0), Due.BEYOND);
        Due.is("30: missing", x.copy(3, 0, 0, 0, 0), Due.MISSING);
        Due.is("30: to missing", x.copy(0, 0, 3, -1, 0), Due.MISSING);
        Due.is("30: bits", x.copy(0, 0, 2, 0, 1), Due.KIND);
        Due.is("30: bits ahead of numbers", x.copy(2, -1, 0, 9, 99), Due.KIND);
        Due.is("30: n -1", x.copy(0, 0, 1, 0, -1), Due.BEYOND);
        Due.is("30: from -1", x.copy(0, -1, 1, 0, 1), Due.BEYOND);
        Due.is("30: to -1", x.copy(0, 0, 1, -1, 1), Due.BEYOND);
        Due.is("30: not so many there", x.copy(0, 0, 1, 0, 4), Due.BEYOND);
        Due.is("30: not so many from there", x.copy(0, 3, 1, 0, 3), Due.BEYOND);
        Due.is("30: not so many to there", x.copy(0, 0, 1, 2, 2), Due.BEYOND);
        Due.is("30: nothing from beyond", x.copy(0, 6, 1, 0, 0), Due.BEYOND);
        Due.is("30: nothing to beyond", x.copy(0, 0, 1, 4, 0), Due.BEYOND);
        int top = Integer.MAX_VALUE;
        Due.is("30: sums that wrap", x.copy(0, top, 1, 0, 1), Due.BEYOND);
        Due.is("30: sums that wrap, to", x.copy(0, 0, 1, top, top), Due.BEYOND);
        Due.is("30: all that wraps", x.copy(0, top, 1, top, top), Due.BEYOND);
        numbersAre("30: nothing changed", x, 0, 10, 11, 12, 13, 14);
        numbersAre("30: nothing changed there", x, 1, 0, 0, 0);
    }

    private static void lay() {
        HoursDesk x = withOne();
        x.person(1, 300, 127, 0, 10);
        x.sheet(0, 16, 6);
        int[] numbers = {0, 900, 901, -1, 30, 40};
        for (int i = 0; i < numbers.length; i++) {
            x.put(0, i, numbers[i]);
        }
        Due.is("31: four came", x.lay(1, 10, 0), 4);
        Due.is("31: four are there", x.told(2), 4);
        Due.is("31: the other person's", x.counted(0, 364, 364), 0);
        int[] want = {0, 240, 0, 0, 30, 40};
        for (int i = 0; i < want.length; i++) {
            Due.is("31: on its day", x.countedOn(1, 10 + i, 10 + i), want[i]);
            Due.is("31: not known ahead", x.countedOn(1, 10 + i, 9 + i), 0);
        }
        x.entry(1, 14, 100, 1, 14);
        Due.is("31: they are work", x.countedOn(1, 14, 14), 90);
        x.strike();
        Due.is("31: struck from the last", x.strike(), 3);
        Due.is("31: the last went", x.countedOn(1, 15, 15), 0);
        Due.is("31: no such person", x.lay(2, 0, 0), Due.BEYOND);
        Due.is("31: person -1", x.lay(-1, 0, 0), Due.BEYOND);
        Due.is("31: day 365", x.lay(0, 365, 0), Due.BEYOND);
        Due.is("31: day -1", x.lay(0, -1, 0), Due.BEYOND);
        Due.is("31: sheet 4", x.lay(0, 0, 4), Due.BEYOND);
        Due.is("31: sheet -1", x.lay(0, 0, -1), Due.BEYOND);
        Due.is("31: missing", x.lay(0, 0, 1), Due.MISSING);
        Due.is("31: nothing came", x.told(2), 3);
    }

    private static void layEdges() {
        HoursDesk x = withOne();
        x.sheet(0, 8, 2);
        Due.is("31: up to 364", x.lay(0, 363, 0), 2);
        Due.is("31: above 364", x.lay(0, 364, 0), Due.BEYOND);
        x.put(0, 1, -1);
        Due.is("31: above 364, left out", x.lay(0, 364, 0), Due.BEYOND);
        x.put(0, 0, -1);
        Due.is("31: all left out", x.lay(0, 363, 0), 0);
        x.sheet(0, 8, 0);
        Due.is("31: no numbers", x.lay(0, 364, 0), 0);
        Due.is("31: two there", x.told(2), 2);
    }

    private static void layIsFull() {
        HoursDesk x = withOne();
        x.sheet(0, 8, 20);
        x.lay(0, 0, 0);
        x.lay(0, 0, 0);
        x.strike();
        Due.is("31: 59", x.lay(0, 0, 0), 20);
        Due.is("31: full", x.lay(0, 0, 0), Due.FULL);
        x.sheet(1, 8, 2);
        Due.is("31: one too many", x.lay(0, 0, 1), Due.FULL);
        Due.is("31: no day ahead of full", x.lay(0, 364, 1), Due.BEYOND);
        Due.is("31: still 59", x.told(2), 59);
        x.put(1, 0, -1);
        Due.is("31: one is left out", x.lay(0, 0, 1), 1);
        Due.is("31: 60", x.told(2), 60);
        x.put(1, 1, -1);
        Due.is("31: none comes", x.lay(0, 0, 1), 0);
        Due.is("31: one more", x.entry(0, 0, 0, 0, 0), Due.FULL);
    }
}
