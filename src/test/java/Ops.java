/** The document's constants as the document numbers them, so that tests do not lean on the program's. */
class Ops {
    static final int OK = 0;
    static final int REFUSED = -1;
    static final int EDIT = 0;
    static final int RUNNING = 1;
    static final int DONE = 2;
    static final int OUT_OF_STEPS = 3;
    static final int TOO_DEEP = 4;
    static final int TOO_MANY = 5;
    static final int RET = 0;
    static final int SYNC = 1;
    static final int SPAWN = 2;
    static final int CALL = 3;
    static final int LOAD = 4;
    static final int STORE = 5;
    static final int SUM = 6;
    static final int SET = 7;
    static final int ADD = 8;
    static final int MOVE = 9;
    static final int JZ = 10;
    static final int JMP = 11;
    static final int LEAST = Integer.MIN_VALUE;
    static final int MOST = Integer.MAX_VALUE;

    Ops() {
    }
}
