import java.util.function.ToIntFunction;

/** A call that reads THE TAPE, with arguments that it takes. */
record Reader(String name, Form form, ToIntFunction<WordMender> call) {
    /** What THE TAPE has to have for it. */
    enum Form { ROW, SOUND, PAIR, TEXT }

    static final Reader[] ALL = {
        new Reader("add(1)", Form.ROW, x -> x.add(1)),
        new Reader("drop()", Form.ROW, WordMender::drop),
        new Reader("find()", Form.ROW, WordMender::find),
        new Reader("near(0)", Form.ROW, x -> x.near(0)),
        new Reader("nearest(1)", Form.ROW, x -> x.nearest(1)),
        new Reader("complete(0)", Form.ROW, x -> x.complete(0)),
        new Reader("sound(1)", Form.SOUND, x -> x.sound(1)),
        new Reader("distance()", Form.PAIR, WordMender::distance),
        new Reader("pair()", Form.PAIR, WordMender::pair),
        new Reader("mend(0)", Form.TEXT, x -> x.mend(0)),
    };

    int read(WordMender x, String tape) {
        Checks.feed(x, tape);
        return call.applyAsInt(x);
    }

    /** Whether it takes a tape, on an object of its own. */
    boolean takes(String tape) {
        return read(new WordMender(), tape) != WordMender.BAD;
    }
}
