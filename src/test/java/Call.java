/** One call on an object. */
interface Call {
    int on(LectureTurns x);
}
