// Promise by promise: ordinary inputs, the edges that the document names, and wrong inputs.
public final class PromisesTest {
    private static final int BAD = -1;
    private static final int NO_ROOM = -2;
    private static final int BROKEN = -3;
    private static final int WAIT = -4;
    private static final int END = -5;

    private static final int[] NO_PROCESS = {-1, 4, 5, 6, 7, 1000, Integer.MAX_VALUE, Integer.MIN_VALUE};
    private static final int[] NO_NAME = {-1, 4, 5, 28, 1000, Integer.MAX_VALUE, Integer.MIN_VALUE};
    private static final int[] NO_DESCRIPTOR = {-1, -6, 6, 7, 12, 24, 1000, Integer.MAX_VALUE, Integer.MIN_VALUE};

    private static String part = "";
    private static int wrong = 0;

    private static void due(String call, int got, int want) {
        if (got != want) {
            wrong++;
            System.out.println(part + ": " + call + " answered " + got + ", due is " + want);
        }
    }

    private static DescriptorTable start(String name) {
        part = name;
        return new DescriptorTable();
    }

    private static void writeAll(DescriptorTable x, int process, int descriptor, int... values) {
        for (int value : values) {
            due("write(" + process + ", " + descriptor + ", " + value + ")", x.write(process, descriptor, value), 0);
        }
    }

    private static void readAll(DescriptorTable x, int process, int descriptor, int... want) {
        for (int each : want) {
            due("read(" + process + ", " + descriptor + ")", x.read(process, descriptor), each);
        }
    }

    private static void promise1NewObject() {
        DescriptorTable x = start("1, constants");
        due("BAD", DescriptorTable.BAD, BAD);
        due("NO_ROOM", DescriptorTable.NO_ROOM, NO_ROOM);
        due("BROKEN", DescriptorTable.BROKEN, BROKEN);
        due("WAIT", DescriptorTable.WAIT, WAIT);
        due("END", DescriptorTable.END, END);

        x = start("1, only process 0 is alive");
        due("counts()", x.counts(), 0);
        for (int process = 1; process < 4; process++) {
            due("open of " + process, x.open(process, 0), BAD);
            due("pipe of " + process, x.pipe(process), BAD);
            due("fork of " + process, x.fork(process), BAD);
            due("exit of " + process, x.exit(process), BAD);
        }

        x = start("1, all descriptors and names are free");
        for (int descriptor = 0; descriptor < 6; descriptor++) {
            due("close(0, " + descriptor + ")", x.close(0, descriptor), BAD);
        }
        for (int name = 0; name < 4; name++) {
            due("unlink(" + name + ")", x.unlink(name), BAD);
        }
        due("open(0, 3)", x.open(0, 3), 0);

        x = start("1, two objects share nothing");
        DescriptorTable other = new DescriptorTable();
        due("open(0, 0)", x.open(0, 0), 0);
        due("fork(0)", x.fork(0), 1);
        due("other counts()", other.counts(), 0);
        due("other fork(1)", other.fork(1), BAD);
        due("other unlink(0)", other.unlink(0), BAD);
    }

    private static void promise2Open() {
        DescriptorTable x = start("2, a new file, then the same file");
        due("open(0, 2)", x.open(0, 2), 0);
        due("counts()", x.counts(), 110);
        readAll(x, 0, 0, END);
        writeAll(x, 0, 0, 5, 6);
        due("open(0, 2)", x.open(0, 2), 1);
        due("counts()", x.counts(), 210);
        readAll(x, 0, 1, 5, 6, END);
        due("open(0, 3)", x.open(0, 3), 2);
        due("counts()", x.counts(), 320);
        readAll(x, 0, 2, END);

        x = start("2, each opening has its own offset");
        x.open(0, 0);
        x.open(0, 0);
        writeAll(x, 0, 0, 1, 2, 3);
        readAll(x, 0, 1, 1);
        writeAll(x, 0, 1, 9);
        readAll(x, 0, 1, 3, END);
        due("seek(0, 0, 0)", x.seek(0, 0, 0), 0);
        readAll(x, 0, 0, 1, 9, 3, END);

        x = start("2, the least free descriptor");
        for (int descriptor = 0; descriptor < 6; descriptor++) {
            due("open(0, 0)", x.open(0, 0), descriptor);
        }
        due("open(0, 0)", x.open(0, 0), NO_ROOM);
        x.close(0, 4);
        x.close(0, 1);
        due("open(0, 0)", x.open(0, 0), 1);
        due("open(0, 0)", x.open(0, 0), 4);
        due("open(0, 0)", x.open(0, 0), NO_ROOM);

        x = start("2, a reused opening starts at offset 0");
        x.open(0, 0);
        writeAll(x, 0, 0, 7);
        x.close(0, 0);
        due("open(0, 0)", x.open(0, 0), 0);
        readAll(x, 0, 0, 7, END);

        x = start("2, a file stays while a name leads to it, with no opening");
        x.open(0, 0);
        writeAll(x, 0, 0, 7);
        x.close(0, 0);
        due("counts()", x.counts(), 10);
        due("open(0, 1)", x.open(0, 1), 0);
        readAll(x, 0, 0, END);
        due("counts()", x.counts(), 120);

        x = start("2, wrong inputs");
        for (int process : NO_PROCESS) {
            due("open(" + process + ", 0)", x.open(process, 0), BAD);
        }
        for (int name : NO_NAME) {
            due("open(0, " + name + ")", x.open(0, name), BAD);
        }
        due("open(1, 0)", x.open(1, 0), BAD);
        due("counts()", x.counts(), 0);
        due("unlink(0)", x.unlink(0), BAD);
        for (int descriptor = 0; descriptor < 6; descriptor++) {
            x.open(0, 0);
        }
        due("open(0, 4) without room", x.open(0, 4), BAD);
        due("open(1, 0) without room in 0", x.open(1, 0), BAD);
    }

    private static void promise3Pipe() {
        DescriptorTable x = start("3, answers and order of the ends");
        due("pipe(0)", x.pipe(0), 1);
        due("counts()", x.counts(), 201);
        due("pipe(0)", x.pipe(0), 8 * 2 + 3);
        due("pipe(0)", x.pipe(0), 8 * 4 + 5);
        due("counts()", x.counts(), 603);
        due("pipe(0)", x.pipe(0), NO_ROOM);
        writeAll(x, 0, 5, 50);
        writeAll(x, 0, 1, 10);
        writeAll(x, 0, 3, 30);
        readAll(x, 0, 0, 10, WAIT);
        readAll(x, 0, 2, 30, WAIT);
        readAll(x, 0, 4, 50, WAIT);

        x = start("3, one free descriptor is not enough");
        for (int descriptor = 0; descriptor < 5; descriptor++) {
            x.open(0, 0);
        }
        due("pipe(0)", x.pipe(0), NO_ROOM);
        due("counts()", x.counts(), 510);
        due("close(0, 5)", x.close(0, 5), BAD);
        due("open(0, 1)", x.open(0, 1), 5);
        due("pipe(0)", x.pipe(0), NO_ROOM);
        x.close(0, 1);
        x.close(0, 4);
        due("pipe(0)", x.pipe(0), 8 * 1 + 4);
        due("read(0, 4)", x.read(0, 4), BAD);
        due("write(0, 1, 0)", x.write(0, 1, 0), BAD);

        x = start("3, a reused pipe has no bytes");
        x.pipe(0);
        writeAll(x, 0, 1, 1, 2, 3);
        x.close(0, 0);
        x.close(0, 1);
        due("counts()", x.counts(), 0);
        due("pipe(0)", x.pipe(0), 1);
        readAll(x, 0, 0, WAIT);

        x = start("3, wrong inputs");
        for (int process : NO_PROCESS) {
            due("pipe(" + process + ")", x.pipe(process), BAD);
        }
        due("pipe(1)", x.pipe(1), BAD);
        due("counts()", x.counts(), 0);
    }

    private static void promise4Dup() {
        DescriptorTable x = start("4, the same opening of a file");
        x.open(0, 0);
        x.open(0, 1);
        x.close(0, 0);
        due("dup(0, 1)", x.dup(0, 1), 0);
        due("dup(0, 1)", x.dup(0, 1), 2);
        due("counts()", x.counts(), 120);
        writeAll(x, 0, 1, 4, 5);
        due("seek(0, 0, 1)", x.seek(0, 0, 1), 0);
        readAll(x, 0, 2, 5);
        readAll(x, 0, 1, END);
        due("close(0, 1)", x.close(0, 1), 0);
        due("counts()", x.counts(), 120);
        readAll(x, 0, 0, END);

        x = start("4, the same end of a pipe");
        x.pipe(0);
        due("dup(0, 0)", x.dup(0, 0), 2);
        due("dup(0, 1)", x.dup(0, 1), 3);
        due("counts()", x.counts(), 201);
        x.close(0, 0);
        x.close(0, 1);
        writeAll(x, 0, 3, 77);
        readAll(x, 0, 2, 77, WAIT);
        x.close(0, 3);
        readAll(x, 0, 2, END);

        x = start("4, no room and wrong inputs");
        due("dup(0, 0)", x.dup(0, 0), BAD);
        for (int descriptor = 0; descriptor < 5; descriptor++) {
            x.open(0, 0);
        }
        due("dup(0, 5)", x.dup(0, 5), BAD);
        due("dup(0, 4)", x.dup(0, 4), 5);
        due("dup(0, 4)", x.dup(0, 4), NO_ROOM);
        for (int process : NO_PROCESS) {
            due("dup(" + process + ", 0)", x.dup(process, 0), BAD);
        }
        for (int descriptor : NO_DESCRIPTOR) {
            due("dup(0, " + descriptor + ") without room", x.dup(0, descriptor), BAD);
        }
        due("dup(1, 0)", x.dup(1, 0), BAD);
        due("counts()", x.counts(), 510);
    }

    private static void promise5Close() {
        DescriptorTable x = start("5, once and not twice");
        x.open(0, 0);
        due("close(0, 0)", x.close(0, 0), 0);
        due("close(0, 0)", x.close(0, 0), BAD);
        due("read(0, 0)", x.read(0, 0), BAD);
        due("counts()", x.counts(), 10);

        x = start("5, one process's descriptor alone");
        x.open(0, 0);
        x.fork(0);
        due("close(0, 0)", x.close(0, 0), 0);
        due("read(0, 0)", x.read(0, 0), BAD);
        writeAll(x, 1, 0, 3);
        due("counts()", x.counts(), 110);
        due("unlink(0)", x.unlink(0), 0);
        due("counts()", x.counts(), 110);
        due("close(1, 0)", x.close(1, 0), 0);
        due("counts()", x.counts(), 0);

        x = start("5, a pipe goes when both ends are gone");
        x.pipe(0);
        due("close(0, 1)", x.close(0, 1), 0);
        due("counts()", x.counts(), 101);
        due("close(0, 0)", x.close(0, 0), 0);
        due("counts()", x.counts(), 0);
        x.pipe(0);
        due("close(0, 0)", x.close(0, 0), 0);
        due("counts()", x.counts(), 101);
        due("close(0, 1)", x.close(0, 1), 0);
        due("counts()", x.counts(), 0);

        x = start("5, wrong inputs");
        for (int descriptor = 0; descriptor < 6; descriptor++) {
            x.open(0, 0);
        }
        x.fork(0);
        for (int process : NO_PROCESS) {
            due("close(" + process + ", 0)", x.close(process, 0), BAD);
        }
        for (int descriptor : NO_DESCRIPTOR) {
            due("close(0, " + descriptor + ")", x.close(0, descriptor), BAD);
            due("close(1, " + descriptor + ")", x.close(1, descriptor), BAD);
        }
        due("close(2, 0)", x.close(2, 0), BAD);
        due("counts()", x.counts(), 610);
        due("open(0, 0)", x.open(0, 0), NO_ROOM);
        due("open(1, 0)", x.open(1, 0), NO_ROOM);
    }

    private static void promise6Fork() {
        DescriptorTable x = start("6, each descriptor is copied, also a free one");
        for (int descriptor = 0; descriptor < 6; descriptor++) {
            x.open(0, descriptor % 4);
            writeAll(x, 0, descriptor, 10 + descriptor);
        }
        x.close(0, 0);
        x.close(0, 3);
        due("counts()", x.counts(), 440);
        due("fork(0)", x.fork(0), 1);
        due("counts()", x.counts(), 440);
        due("close(1, 0)", x.close(1, 0), BAD);
        due("close(1, 3)", x.close(1, 3), BAD);
        for (int descriptor : new int[] {1, 2, 4, 5}) {
            due("seek(1, " + descriptor + ", 0)", x.seek(1, descriptor, 0), 0);
        }
        readAll(x, 0, 4, 14);
        readAll(x, 0, 5, 15);
        readAll(x, 1, 5, END);
        due("open(1, 0)", x.open(1, 0), 0);
        due("close(0, 0)", x.close(0, 0), BAD);

        x = start("6, the least that is not alive");
        due("fork(0)", x.fork(0), 1);
        due("fork(1)", x.fork(1), 2);
        due("fork(2)", x.fork(2), 3);
        due("fork(3)", x.fork(3), NO_ROOM);
        due("fork(4)", x.fork(4), BAD);
        due("fork(-1)", x.fork(-1), BAD);
        x.exit(2);
        x.exit(0);
        due("fork(2)", x.fork(2), BAD);
        due("fork(3)", x.fork(3), 0);
        due("fork(3)", x.fork(3), 2);
        due("fork(3)", x.fork(3), NO_ROOM);

        x = start("6, a process that lives again has the descriptors of its parent alone");
        x.fork(0);
        x.open(1, 0);
        x.open(1, 0);
        x.open(0, 1);
        x.exit(1);
        due("fork(0)", x.fork(0), 1);
        due("close(1, 1)", x.close(1, 1), BAD);
        due("close(1, 0)", x.close(1, 0), 0);
        due("counts()", x.counts(), 120);

        x = start("6, wrong inputs");
        for (int process : NO_PROCESS) {
            due("fork(" + process + ")", x.fork(process), BAD);
        }
        due("fork(1)", x.fork(1), BAD);
        due("exit(0)", x.exit(0), BAD);
    }

    private static void promise7Exit() {
        DescriptorTable x = start("7, all descriptors become free");
        x.fork(0);
        for (int descriptor = 0; descriptor < 4; descriptor++) {
            x.open(1, descriptor);
        }
        x.pipe(1);
        x.unlink(0);
        due("counts()", x.counts(), 641);
        due("exit(1)", x.exit(1), 0);
        due("counts()", x.counts(), 30);
        due("open(1, 0)", x.open(1, 0), BAD);
        due("close(1, 0)", x.close(1, 0), BAD);
        due("exit(1)", x.exit(1), BAD);
        due("unlink(0)", x.unlink(0), BAD);

        x = start("7, what another process still leads to stays");
        x.pipe(0);
        x.fork(0);
        writeAll(x, 0, 1, 8);
        due("exit(0)", x.exit(0), 0);
        due("counts()", x.counts(), 201);
        readAll(x, 1, 0, 8, WAIT);

        x = start("7, the ends go with their last process");
        x.pipe(0);
        x.fork(0);
        x.close(0, 1);
        writeAll(x, 1, 1, 8);
        due("exit(1)", x.exit(1), 0);
        readAll(x, 0, 0, 8, END);
        x.pipe(0);
        x.fork(0);
        x.close(0, 1);
        due("write(0, 2, 0)", x.write(0, 2, 0), 0);
        due("exit(1)", x.exit(1), 0);
        due("write(0, 2, 0)", x.write(0, 2, 0), BROKEN);

        x = start("7, the last process stays");
        x.open(0, 0);
        due("exit(0)", x.exit(0), BAD);
        writeAll(x, 0, 0, 1);
        x.fork(0);
        due("exit(0)", x.exit(0), 0);
        due("exit(1)", x.exit(1), BAD);
        due("exit(0)", x.exit(0), BAD);
        due("counts()", x.counts(), 110);
        writeAll(x, 1, 0, 2);

        x = start("7, wrong inputs");
        x.fork(0);
        for (int process : NO_PROCESS) {
            due("exit(" + process + ")", x.exit(process), BAD);
        }
        due("exit(2)", x.exit(2), BAD);
        due("fork(1)", x.fork(1), 2);
    }

    private static void promise8Write() {
        DescriptorTable x = start("8, value & 255");
        x.open(0, 0);
        writeAll(x, 0, 0, 255, 256, -1, 0x12345678, Integer.MIN_VALUE, Integer.MAX_VALUE, 128, -128);
        x.open(0, 0);
        readAll(x, 0, 1, 255, 0, 255, 0x78, 0, 255, 128, 128, END);
        x.pipe(0);
        writeAll(x, 0, 3, 255, 256, -1, 0x12345678, 128, -128);
        readAll(x, 0, 2, 255, 0, 255, 0x78, 128, 128, WAIT);

        x = start("8, over bytes and at the end");
        x.open(0, 0);
        writeAll(x, 0, 0, 1, 2, 3);
        due("seek(0, 0, 1)", x.seek(0, 0, 1), 0);
        writeAll(x, 0, 0, 9);
        readAll(x, 0, 0, 3, END);
        writeAll(x, 0, 0, 4);
        due("seek(0, 0, 5)", x.seek(0, 0, 5), BAD);
        due("seek(0, 0, 0)", x.seek(0, 0, 0), 0);
        readAll(x, 0, 0, 1, 9, 3, 4, END);

        x = start("8, a file holds 8 bytes");
        x.open(0, 0);
        x.open(0, 1);
        writeAll(x, 0, 0, 1, 2, 3, 4, 5, 6, 7, 8);
        due("write(0, 0, 9)", x.write(0, 0, 9), NO_ROOM);
        due("write(0, 0, 9)", x.write(0, 0, 9), NO_ROOM);
        readAll(x, 0, 1, END);
        due("seek(0, 0, 7)", x.seek(0, 0, 7), 0);
        writeAll(x, 0, 0, 88);
        due("write(0, 0, 9)", x.write(0, 0, 9), NO_ROOM);
        due("seek(0, 0, 0)", x.seek(0, 0, 0), 0);
        readAll(x, 0, 0, 1, 2, 3, 4, 5, 6, 7, 88, END);

        x = start("8, a pipe holds 6 bytes");
        x.pipe(0);
        x.pipe(0);
        writeAll(x, 0, 1, 1, 2, 3, 4, 5, 6);
        due("write(0, 1, 7)", x.write(0, 1, 7), WAIT);
        readAll(x, 0, 2, WAIT);
        readAll(x, 0, 0, 1);
        writeAll(x, 0, 1, 8);
        due("write(0, 1, 9)", x.write(0, 1, 9), WAIT);
        readAll(x, 0, 0, 2, 3, 4, 5, 6, 8, WAIT);

        x = start("8, no reading end");
        x.pipe(0);
        writeAll(x, 0, 1, 1);
        x.dup(0, 0);
        x.close(0, 0);
        writeAll(x, 0, 1, 2);
        x.close(0, 2);
        due("write(0, 1, 3)", x.write(0, 1, 3), BROKEN);

        x = start("8, wrong inputs");
        x.pipe(0);
        x.open(0, 0);
        due("write(0, 0, 1)", x.write(0, 0, 1), BAD);
        due("write(0, 3, 1)", x.write(0, 3, 1), BAD);
        due("write(1, 1, 1)", x.write(1, 1, 1), BAD);
        for (int process : NO_PROCESS) {
            due("write(" + process + ", 1, 1)", x.write(process, 1, 1), BAD);
        }
        for (int descriptor : NO_DESCRIPTOR) {
            due("write(0, " + descriptor + ", 1)", x.write(0, descriptor, 1), BAD);
        }
        readAll(x, 0, 0, WAIT);
        readAll(x, 0, 2, END);
    }

    private static void promise9Read() {
        DescriptorTable x = start("9, a file");
        x.open(0, 0);
        x.open(0, 0);
        readAll(x, 0, 1, END, END);
        writeAll(x, 0, 0, 0, 200);
        readAll(x, 0, 1, 0, 200, END, END);
        writeAll(x, 0, 0, 3);
        readAll(x, 0, 1, 3, END);

        x = start("9, a full file");
        x.open(0, 0);
        writeAll(x, 0, 0, 1, 2, 3, 4, 5, 6, 7, 8);
        readAll(x, 0, 0, END);

        x = start("9, a pipe gives its oldest byte and outlives its writing end");
        x.pipe(0);
        readAll(x, 0, 0, WAIT);
        writeAll(x, 0, 1, 3, 1, 2);
        readAll(x, 0, 0, 3);
        writeAll(x, 0, 1, 9);
        x.close(0, 1);
        due("counts()", x.counts(), 101);
        readAll(x, 0, 0, 1, 2, 9, END, END);

        x = start("9, the writing end of another process counts");
        x.pipe(0);
        x.fork(0);
        x.close(0, 1);
        readAll(x, 0, 0, WAIT);
        x.close(1, 1);
        readAll(x, 0, 0, END);
        readAll(x, 1, 0, END);

        x = start("9, wrong inputs");
        x.pipe(0);
        writeAll(x, 0, 1, 5);
        due("read(0, 1)", x.read(0, 1), BAD);
        due("read(0, 2)", x.read(0, 2), BAD);
        due("read(1, 0)", x.read(1, 0), BAD);
        for (int process : NO_PROCESS) {
            due("read(" + process + ", 0)", x.read(process, 0), BAD);
        }
        for (int descriptor : NO_DESCRIPTOR) {
            due("read(0, " + descriptor + ")", x.read(0, descriptor), BAD);
        }
        readAll(x, 0, 0, 5, WAIT);
    }

    private static void promise10Seek() {
        DescriptorTable x = start("10, from 0 to the number of bytes");
        x.open(0, 0);
        due("seek(0, 0, 0)", x.seek(0, 0, 0), 0);
        due("seek(0, 0, 1)", x.seek(0, 0, 1), BAD);
        writeAll(x, 0, 0, 4, 5, 6);
        due("seek(0, 0, 1)", x.seek(0, 0, 1), 0);
        due("seek(0, 0, -1)", x.seek(0, 0, -1), BAD);
        due("seek(0, 0, 4)", x.seek(0, 0, 4), BAD);
        due("seek(0, 0, 8)", x.seek(0, 0, 8), BAD);
        due("seek(0, 0, MAX)", x.seek(0, 0, Integer.MAX_VALUE), BAD);
        due("seek(0, 0, MIN)", x.seek(0, 0, Integer.MIN_VALUE), BAD);
        readAll(x, 0, 0, 5, 6, END);
        due("seek(0, 0, 3)", x.seek(0, 0, 3), 0);
        readAll(x, 0, 0, END);
        writeAll(x, 0, 0, 7, 8, 9, 10, 11);
        due("seek(0, 0, 8)", x.seek(0, 0, 8), 0);
        due("seek(0, 0, 9)", x.seek(0, 0, 9), BAD);
        due("write(0, 0, 1)", x.write(0, 0, 1), NO_ROOM);

        x = start("10, one opening and not the other");
        x.open(0, 0);
        x.open(0, 0);
        writeAll(x, 0, 0, 4, 5);
        due("seek(0, 1, 1)", x.seek(0, 1, 1), 0);
        readAll(x, 0, 0, END);
        readAll(x, 0, 1, 5);

        x = start("10, wrong inputs");
        x.pipe(0);
        x.open(0, 0);
        due("seek(0, 0, 0)", x.seek(0, 0, 0), BAD);
        due("seek(0, 1, 0)", x.seek(0, 1, 0), BAD);
        due("seek(0, 3, 0)", x.seek(0, 3, 0), BAD);
        due("seek(1, 2, 0)", x.seek(1, 2, 0), BAD);
        for (int process : NO_PROCESS) {
            due("seek(" + process + ", 2, 0)", x.seek(process, 2, 0), BAD);
        }
        for (int descriptor : NO_DESCRIPTOR) {
            due("seek(0, " + descriptor + ", 0)", x.seek(0, descriptor, 0), BAD);
        }
    }

    private static void promise11Link() {
        DescriptorTable x = start("11, two names of one file");
        x.open(0, 0);
        writeAll(x, 0, 0, 6);
        due("link(0, 3)", x.link(0, 3), 0);
        due("counts()", x.counts(), 110);
        due("open(0, 3)", x.open(0, 3), 1);
        readAll(x, 0, 1, 6, END);
        writeAll(x, 0, 1, 7);
        readAll(x, 0, 0, 7, END);
        due("counts()", x.counts(), 210);
        due("unlink(0)", x.unlink(0), 0);
        due("link(3, 1)", x.link(3, 1), 0);
        due("link(3, 0)", x.link(3, 0), 0);
        x.close(0, 0);
        x.close(0, 1);
        due("counts()", x.counts(), 10);

        x = start("11, wrong inputs");
        due("link(0, 0)", x.link(0, 0), BAD);
        due("link(0, 1)", x.link(0, 1), BAD);
        x.open(0, 0);
        x.open(0, 1);
        due("link(0, 0)", x.link(0, 0), BAD);
        due("link(0, 1)", x.link(0, 1), BAD);
        due("link(2, 3)", x.link(2, 3), BAD);
        due("link(2, 0)", x.link(2, 0), BAD);
        for (int name : NO_NAME) {
            due("link(0, " + name + ")", x.link(0, name), BAD);
            due("link(" + name + ", 2)", x.link(name, 2), BAD);
            due("link(" + name + ", " + name + ")", x.link(name, name), BAD);
        }
        due("unlink(2)", x.unlink(2), BAD);
        due("unlink(3)", x.unlink(3), BAD);
        writeAll(x, 0, 0, 1);
        readAll(x, 0, 1, END);
        due("counts()", x.counts(), 220);
    }

    private static void promise12Unlink() {
        DescriptorTable x = start("12, a file without openings is gone with its last name");
        x.open(0, 0);
        writeAll(x, 0, 0, 1, 2);
        x.close(0, 0);
        x.link(0, 1);
        due("unlink(0)", x.unlink(0), 0);
        due("counts()", x.counts(), 10);
        due("unlink(0)", x.unlink(0), BAD);
        due("unlink(1)", x.unlink(1), 0);
        due("counts()", x.counts(), 0);
        due("open(0, 1)", x.open(0, 1), 0);
        readAll(x, 0, 0, END);
        due("seek(0, 0, 1)", x.seek(0, 0, 1), BAD);

        x = start("12, a file with an opening stays");
        x.open(0, 0);
        writeAll(x, 0, 0, 1);
        due("unlink(0)", x.unlink(0), 0);
        due("counts()", x.counts(), 110);
        due("open(0, 0)", x.open(0, 0), 1);
        due("counts()", x.counts(), 220);
        readAll(x, 0, 1, END);
        writeAll(x, 0, 0, 2);
        due("seek(0, 0, 0)", x.seek(0, 0, 0), 0);
        readAll(x, 0, 0, 1, 2, END);
        due("link(0, 2)", x.link(0, 2), 0);
        due("close(0, 0)", x.close(0, 0), 0);
        due("counts()", x.counts(), 110);

        x = start("12, wrong inputs");
        x.open(0, 0);
        for (int name : NO_NAME) {
            due("unlink(" + name + ")", x.unlink(name), BAD);
        }
        due("unlink(1)", x.unlink(1), BAD);
        due("unlink(0)", x.unlink(0), 0);
    }

    private static void promise13Counts() {
        DescriptorTable x = start("13, each part on its own");
        due("counts()", x.counts(), 0);
        x.open(0, 0);
        due("counts()", x.counts(), 110);
        x.dup(0, 0);
        due("counts()", x.counts(), 110);
        x.pipe(0);
        due("counts()", x.counts(), 311);
        x.fork(0);
        due("counts()", x.counts(), 311);
        x.close(0, 0);
        x.close(0, 1);
        due("counts()", x.counts(), 311);
        x.exit(1);
        due("counts()", x.counts(), 211);
        x.unlink(0);
        due("counts()", x.counts(), 201);

        x = start("13, as many openings and files as there can be");
        x.fork(0);
        x.fork(0);
        x.fork(0);
        for (int place = 0; place < 23; place++) {
            due("open of place " + place, x.open(place / 6, 0), place % 6);
            writeAll(x, place / 6, place % 6, 100 + place);
            due("unlink(0)", x.unlink(0), 0);
        }
        for (int name = 1; name < 4; name++) {
            due("open(3, " + name + ")", x.open(3, name), 5);
            writeAll(x, 3, 5, 200 + name);
            due("close(3, 5)", x.close(3, 5), 0);
        }
        due("open(3, 0)", x.open(3, 0), 5);
        writeAll(x, 3, 5, 123);
        due("counts()", x.counts(), 2400 + 270);
        due("unlink(0)", x.unlink(0), 0);
        due("counts()", x.counts(), 2400 + 270);
        due("open(2, 0)", x.open(2, 0), NO_ROOM);
        due("counts()", x.counts(), 2400 + 270);
        for (int place = 0; place < 24; place++) {
            due("seek of place " + place, x.seek(place / 6, place % 6, 0), 0);
            readAll(x, place / 6, place % 6, 100 + place, END);
        }
        x.close(3, 5);
        due("counts()", x.counts(), 2300 + 260);
        for (int name = 1; name < 4; name++) {
            due("open(3, " + name + ")", x.open(3, name), 5);
            readAll(x, 3, 5, 200 + name, END);
            due("close(3, 5)", x.close(3, 5), 0);
        }

        x = start("13, many pipes of one end");
        x.fork(0);
        x.fork(0);
        x.fork(0);
        for (int process = 0; process < 4; process++) {
            for (int first = 0; first < 5; first++) {
                int answer = x.pipe(process);
                due("pipe(" + process + ") % 8", answer % 8, first + 1);
                due("pipe(" + process + ") / 8", answer / 8, 0);
                writeAll(x, process, first + 1, 40 * process + first);
                if (first < 4) {
                    due("close(" + process + ", 0)", x.close(process, 0), 0);
                }
            }
        }
        due("counts()", x.counts(), 2400 + 20);
        for (int process = 0; process < 4; process++) {
            for (int descriptor = 1; descriptor < 5; descriptor++) {
                due("write to a lone end", x.write(process, descriptor, 1), BROKEN);
            }
            readAll(x, process, 0, 40 * process + 4, WAIT);
        }
    }

    private static void promise14OrderAndLimits() {
        DescriptorTable x = start("14, BROKEN before WAIT");
        x.pipe(0);
        writeAll(x, 0, 1, 1, 2, 3, 4, 5, 6);
        due("write(0, 1, 7)", x.write(0, 1, 7), WAIT);
        x.close(0, 0);
        due("write(0, 1, 7)", x.write(0, 1, 7), BROKEN);

        x = start("14, open without room makes no file");
        for (int descriptor = 0; descriptor < 6; descriptor++) {
            x.open(0, 0);
        }
        due("open(0, 1)", x.open(0, 1), NO_ROOM);
        due("counts()", x.counts(), 610);
        due("unlink(1)", x.unlink(1), BAD);
        due("link(1, 2)", x.link(1, 2), BAD);
        due("link(0, 1)", x.link(0, 1), 0);
        due("open(0, 1)", x.open(0, 1), NO_ROOM);
        x.close(0, 5);
        writeAll(x, 0, 0, 9);
        due("open(0, 1)", x.open(0, 1), 5);
        readAll(x, 0, 5, 9, END);

        x = start("14, an object serves 512 calls");
        x.pipe(0);
        for (int round = 0; round < 170; round++) {
            due("dup(0, 1)", x.dup(0, 1), 2);
            due("write(0, 2, 0)", x.write(0, 2, round), round < 6 ? 0 : WAIT);
            due("close(0, 2)", x.close(0, 2), 0);
        }
        due("counts()", x.counts(), 201);
    }

    public static void main(String[] args) {
        promise1NewObject();
        promise2Open();
        promise3Pipe();
        promise4Dup();
        promise5Close();
        promise6Fork();
        promise7Exit();
        promise8Write();
        promise9Read();
        promise10Seek();
        promise11Link();
        promise12Unlink();
        promise13Counts();
        promise14OrderAndLimits();
        System.out.println(wrong == 0 ? "all answers are as due" : wrong + " answers are not as due");
        if (wrong != 0) {
            System.exit(1);
        }
    }
}
