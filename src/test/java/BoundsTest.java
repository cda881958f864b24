import java.io.IOException;

/** Sentence by sentence: each that names a boundary case is held to, and each call that is refused changes nothing. */
public final class BoundsTest {
    public static void main(String[] args) throws IOException {
        Check check = new Check("BoundsTest");
        Sentences said = new Sentences(check, Document.read());
        new RopeBounds(said).all();
        new TripBounds(said).all();
        new MillBounds(said).all();
        new FeeBounds(said).all();
        new SheetBounds(said).all();
        new Refusals(said).all();
        said.end();
        check.end();
    }
}
