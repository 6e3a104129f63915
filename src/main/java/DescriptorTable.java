/**
 * The open files and pipes of a few processes that fork and die.
 *
 * What leads to what is kept in openingAt and fileOfName alone. An opening, a file or a pipe
 * exists exactly while these still reach it, so nothing has to be cleared when it is gone: its
 * place simply counts as unused and is set up afresh by the next one that takes it.
 */
public final class DescriptorTable {
    public static final int BAD = -1;
    public static final int NO_ROOM = -2;
    public static final int BROKEN = -3;
    public static final int WAIT = -4;
    public static final int END = -5;

    private static final int PROCESSES = 4;
    private static final int DESCRIPTORS = 6;
    private static final int NAMES = 4;
    private static final int FILE_ROOM = 8;
    private static final int PIPE_ROOM = 6;

    private static final int ALL_DESCRIPTORS = PROCESSES * DESCRIPTORS;
    // Each opening has a descriptor of its own, each pipe an opening, each file a name or an
    // opening: there can't be more of them than this.
    private static final int OPENINGS = ALL_DESCRIPTORS;
    private static final int PIPES = OPENINGS;
    private static final int FILES = NAMES + OPENINGS;
    private static final int ALL_FILE_BYTES = FILES * FILE_ROOM;
    private static final int ALL_PIPE_BYTES = PIPES * PIPE_ROOM;

    private static final int NONE = -1;

    private static final int OF_FILE = 0;
    private static final int READING_END = 1;
    private static final int WRITING_END = 2;

    private final boolean[] alive = new boolean[PROCESSES];
    // Descriptor d of process p stands at p * DESCRIPTORS + d; those of a dead process are NONE.
    private final int[] openingAt = new int[ALL_DESCRIPTORS];
    private final int[] fileOfName = new int[NAMES];

    private final int[] openingSort = new int[OPENINGS];
    // The number of a file or of a pipe, as the sort says.
    private final int[] openingTarget = new int[OPENINGS];
    private final int[] openingOffset = new int[OPENINGS];

    private final int[] fileLength = new int[FILES];
    private final int[] fileBytes = new int[ALL_FILE_BYTES];

    private final int[] pipeLength = new int[PIPES];
    // The oldest byte of a pipe stands first.
    private final int[] pipeBytes = new int[ALL_PIPE_BYTES];

    public DescriptorTable() {
        alive[0] = true;
        for (int place = 0; place < ALL_DESCRIPTORS; place++) {
            openingAt[place] = NONE;
        }
        for (int name = 0; name < NAMES; name++) {
            fileOfName[name] = NONE;
        }
    }

    public int open(int process, int name) {
        if (!isAlive(process) || !isName(name)) {
            return BAD;
        }
        int descriptor = leastFree(process, 0);
        if (descriptor == NONE) {
            return NO_ROOM;
        }
        if (fileOfName[name] == NONE) {
            fileOfName[name] = newFile();
        }
        leadToNewOpening(process, descriptor, OF_FILE, fileOfName[name]);
        return descriptor;
    }

    public int pipe(int process) {
        if (!isAlive(process)) {
            return BAD;
        }
        int first = leastFree(process, 0);
        if (first == NONE) {
            return NO_ROOM;
        }
        int second = leastFree(process, first + 1);
        if (second == NONE) {
            return NO_ROOM;
        }
        int pipe = newPipe();
        leadToNewOpening(process, first, READING_END, pipe);
        leadToNewOpening(process, second, WRITING_END, pipe);
        return 8 * first + second;
    }

    public int dup(int process, int descriptor) {
        int opening = openingOf(process, descriptor);
        if (opening == NONE) {
            return BAD;
        }
        int copy = leastFree(process, 0);
        if (copy == NONE) {
            return NO_ROOM;
        }
        openingAt[process * DESCRIPTORS + copy] = opening;
        return copy;
    }

    public int close(int process, int descriptor) {
        if (openingOf(process, descriptor) == NONE) {
            return BAD;
        }
        openingAt[process * DESCRIPTORS + descriptor] = NONE;
        return 0;
    }

    public int fork(int process) {
        if (!isAlive(process)) {
            return BAD;
        }
        int child = leastNotAlive();
        if (child == NONE) {
            return NO_ROOM;
        }
        alive[child] = true;
        for (int descriptor = 0; descriptor < DESCRIPTORS; descriptor++) {
            openingAt[child * DESCRIPTORS + descriptor] = openingAt[process * DESCRIPTORS + descriptor];
        }
        return child;
    }

    public int exit(int process) {
        if (!isAlive(process) || numberAlive() == 1) {
            return BAD;
        }
        alive[process] = false;
        for (int descriptor = 0; descriptor < DESCRIPTORS; descriptor++) {
            openingAt[process * DESCRIPTORS + descriptor] = NONE;
        }
        return 0;
    }

    public int write(int process, int descriptor, int value) {
        int opening = openingOf(process, descriptor);
        if (opening == NONE || openingSort[opening] == READING_END) {
            return BAD;
        }
        if (openingSort[opening] == WRITING_END) {
            return writeToPipe(openingTarget[opening], value & 255);
        }
        return writeToFile(opening, value & 255);
    }

    public int read(int process, int descriptor) {
        int opening = openingOf(process, descriptor);
        if (opening == NONE || openingSort[opening] == WRITING_END) {
            return BAD;
        }
        if (openingSort[opening] == READING_END) {
            return readFromPipe(openingTarget[opening]);
        }
        return readFromFile(opening);
    }

    public int seek(int process, int descriptor, int offset) {
        int opening = openingOf(process, descriptor);
        if (opening == NONE || openingSort[opening] != OF_FILE) {
            return BAD;
        }
        if (offset < 0 || offset > fileLength[openingTarget[opening]]) {
            return BAD;
        }
        openingOffset[opening] = offset;
        return 0;
    }

    public int link(int from, int to) {
        if (!isName(from) || !isName(to)) {
            return BAD;
        }
        if (fileOfName[from] == NONE || fileOfName[to] != NONE) {
            return BAD;
        }
        fileOfName[to] = fileOfName[from];
        return 0;
    }

    public int unlink(int name) {
        if (!isName(name) || fileOfName[name] == NONE) {
            return BAD;
        }
        fileOfName[name] = NONE;
        return 0;
    }

    public int counts() {
        int openings = 0;
        for (int opening = 0; opening < OPENINGS; opening++) {
            if (openingExists(opening)) {
                openings++;
            }
        }
        int files = 0;
        for (int file = 0; file < FILES; file++) {
            if (fileExists(file)) {
                files++;
            }
        }
        int pipes = 0;
        for (int pipe = 0; pipe < PIPES; pipe++) {
            if (pipeExists(pipe)) {
                pipes++;
            }
        }
        return 100 * openings + 10 * files + pipes;
    }

    private boolean isAlive(int process) {
        return process >= 0 && process < PROCESSES && alive[process];
    }

    private boolean isName(int name) {
        return name >= 0 && name < NAMES;
    }

    private int numberAlive() {
        int number = 0;
        for (int process = 0; process < PROCESSES; process++) {
            if (alive[process]) {
                number++;
            }
        }
        return number;
    }

    private int leastNotAlive() {
        for (int process = 0; process < PROCESSES; process++) {
            if (!alive[process]) {
                return process;
            }
        }
        return NONE;
    }

    private int openingOf(int process, int descriptor) {
        if (!isAlive(process) || descriptor < 0 || descriptor >= DESCRIPTORS) {
            return NONE;
        }
        return openingAt[process * DESCRIPTORS + descriptor];
    }

    private int leastFree(int process, int from) {
        for (int descriptor = from; descriptor < DESCRIPTORS; descriptor++) {
            if (openingAt[process * DESCRIPTORS + descriptor] == NONE) {
                return descriptor;
            }
        }
        return NONE;
    }

    private boolean openingExists(int opening) {
        for (int place = 0; place < ALL_DESCRIPTORS; place++) {
            if (openingAt[place] == opening) {
                return true;
            }
        }
        return false;
    }

    private boolean isOpen(int sort, int target) {
        for (int place = 0; place < ALL_DESCRIPTORS; place++) {
            int opening = openingAt[place];
            if (opening != NONE && openingSort[opening] == sort && openingTarget[opening] == target) {
                return true;
            }
        }
        return false;
    }

    private boolean fileExists(int file) {
        for (int name = 0; name < NAMES; name++) {
            if (fileOfName[name] == file) {
                return true;
            }
        }
        return isOpen(OF_FILE, file);
    }

    private boolean pipeExists(int pipe) {
        return isOpen(READING_END, pipe) || isOpen(WRITING_END, pipe);
    }

    // The three searches below stop at the last place without a look at it: there are places
    // enough, so if all others are taken, that one is not.

    private void leadToNewOpening(int process, int descriptor, int sort, int target) {
        int opening = 0;
        while (opening < OPENINGS - 1 && openingExists(opening)) {
            opening++;
        }
        openingSort[opening] = sort;
        openingTarget[opening] = target;
        openingOffset[opening] = 0;
        openingAt[process * DESCRIPTORS + descriptor] = opening;
    }

    private int newFile() {
        int file = 0;
        while (file < FILES - 1 && fileExists(file)) {
            file++;
        }
        fileLength[file] = 0;
        return file;
    }

    private int newPipe() {
        int pipe = 0;
        while (pipe < PIPES - 1 && pipeExists(pipe)) {
            pipe++;
        }
        pipeLength[pipe] = 0;
        return pipe;
    }

    private int writeToFile(int opening, int value) {
        int file = openingTarget[opening];
        int offset = openingOffset[opening];
        if (offset >= FILE_ROOM) {
            return NO_ROOM;
        }
        fileBytes[file * FILE_ROOM + offset] = value;
        if (offset == fileLength[file]) {
            fileLength[file] = offset + 1;
        }
        openingOffset[opening] = offset + 1;
        return 0;
    }

    private int readFromFile(int opening) {
        int file = openingTarget[opening];
        int offset = openingOffset[opening];
        if (offset >= fileLength[file]) {
            return END;
        }
        openingOffset[opening] = offset + 1;
        return fileBytes[file * FILE_ROOM + offset];
    }

    private int writeToPipe(int pipe, int value) {
        if (!isOpen(READING_END, pipe)) {
            return BROKEN;
        }
        int length = pipeLength[pipe];
        if (length >= PIPE_ROOM) {
            return WAIT;
        }
        pipeBytes[pipe * PIPE_ROOM + length] = value;
        pipeLength[pipe] = length + 1;
        return 0;
    }

    private int readFromPipe(int pipe) {
        if (pipeLength[pipe] == 0) {
            return isOpen(WRITING_END, pipe) ? WAIT : END;
        }
        int start = pipe * PIPE_ROOM;
        int oldest = pipeBytes[start];
        for (int place = 1; place < PIPE_ROOM; place++) {
            pipeBytes[start + place - 1] = pipeBytes[start + place];
        }
        pipeLength[pipe]--;
        return oldest;
    }
}
