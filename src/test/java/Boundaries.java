import java.io.IOException;
import java.nio.file.Files;
import java.nio.file.Path;

/**
 * Each sentence of the document with a test of its own, at the boundaries that it names: the last value that is
 * taken and the first that is refused, nothing and the most, wrap-arounds, refused calls and their codes.
 */
public final class Boundaries {
    private Boundaries() {
    }

    public static void main(String[] args) throws IOException {
        Path shared = Path.of(args.length > 1 ? args[1] : "../shared");
        Check check = new Check();
        Sentences book = new Sentences(check, Files.readString(shared.resolve("DOC.md")));
        new ImageBoundaries(book).all();
        new CommandBoundaries(book).all();
        new PlanBoundaries(book).all();
        new PatchBoundaries(book).all();
        new DeviceBoundaries(book).all();
        new PaperBoundaries(book).all();
        new TermsBoundaries(book).all();
        new DeviceTermsBoundaries(book).all();
        new CallTermsBoundaries(book).all();
        book.checkAllTested();
        check.end();
    }
}
