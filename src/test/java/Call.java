/** One call, or a few, on an object: what it answered (a boolean counts 1 or 0). */
interface Call {
    /** The call that is no call. */
    Call NOTHING = x -> 0;

    long on(OneTreeTours x);

    static long truth(boolean answer) {
        return answer ? 1 : 0;
    }
}
