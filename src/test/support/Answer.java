/** What a call has answered; a boolean counts 1 or 0. */
record Answer(String call, int number) {
    void is(int due) {
        if (number != due) {
            Sentences.fault(call + " answered " + number + ", due is " + due);
        }
    }

    void is(boolean due) {
        is(due ? 1 : 0);
    }
}
