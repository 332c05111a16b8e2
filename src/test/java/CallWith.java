/** A call on an object, of which one argument is open. */
interface CallWith {
    int on(LectureTurns x, int value);
}
