/** Calls on a new room, that may be made again on another one. */
interface Scene {
    void play(CountedRoom x);

    default Scene then(Scene other) {
        return x -> {
            play(x);
            other.play(x);
        };
    }

    /** As this one, and what it throws is forgotten. */
    default Scene quietly() {
        return x -> {
            try {
                play(x);
            } catch (RuntimeException e) {
                return;
            }
        };
    }
}
