import java.io.IOException;

/**
 * Each sentence of the document that names a bound, one by one: calls up to it, at it and beyond it.
 * A line that fails begins with the promise and the sentence.
 */
public final class EdgesTest {
    public static void main(String[] args) throws IOException {
        Sentences s = new Sentences();
        new EdgesOfMen(s).look();
        new EdgesOfText(s).look();
        new EdgesOfTests(s).look();
        new EdgesOfKeeping(s).look();
        new EdgesOfLooks(s).look();
        new EdgesOfState(s).look();
        s.end();
    }
}
