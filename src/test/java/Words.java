/** The document's words, without the class's name ahead of them. */
interface Words {
    int ACT = Flowkeeper.ACT, TIMER = Flowkeeper.TIMER, WAIT = Flowkeeper.WAIT, CHILD = Flowkeeper.CHILD,
            SIDE = Flowkeeper.SIDE, SKIP = Flowkeeper.SKIP, BACK = Flowkeeper.BACK, SET = Flowkeeper.SET,
            ADD = Flowkeeper.ADD, UNDO = Flowkeeper.UNDO, MARK = Flowkeeper.MARK, GUARD = Flowkeeper.GUARD,
            TELL = Flowkeeper.TELL, FAIL = Flowkeeper.FAIL, AGAIN = Flowkeeper.AGAIN, END = Flowkeeper.END;

    int RUNNING = Flowkeeper.RUNNING, ENDED = Flowkeeper.ENDED, FAILED = Flowkeeper.FAILED,
            CANCELLED = Flowkeeper.CANCELLED, STOPPED = Flowkeeper.STOPPED;

    int NONE = Flowkeeper.NONE, MISMATCH = Flowkeeper.MISMATCH;
}
