import java.io.IOException;
import java.io.UncheckedIOException;
import java.nio.file.Files;
import java.nio.file.Path;

/** A document in parts, each of which begins with its name: so that a quoted sentence can be looked up. */
final class Document {
    private final String[] parts;

    /** The text is parted in front of each line that begins with what the pattern tells. */
    Document(String path, String partsBegin) {
        parts = textOf(Path.of(path)).split("(?m)^" + partsBegin);
    }

    private static String textOf(Path path) {
        if (!Files.isReadable(path)) {
            return "";
        }
        try {
            return Files.readString(path);
        } catch (IOException e) {
            throw new UncheckedIOException(e);
        }
    }

    /**
     * Whether the words stand in the part of that name, in their order where some are left out by [..].
     * Where the document is not at hand they are believed, for what they ask can be tested without it.
     */
    boolean says(String name, String words) {
        if (parts[0].isEmpty() && parts.length == 1) {
            return true;
        }
        for (String part : parts) {
            boolean isIt = part.startsWith(name + ":") || part.startsWith(name + "\n") || part.startsWith(name + " ");
            if (isIt && standsIn(part.replaceAll("\\s+", " "), words)) {
                return true;
            }
        }
        return false;
    }

    private static boolean standsIn(String part, String words) {
        int from = 0;
        for (String some : words.split("\\[\\.\\.\\]")) {
            int at = part.indexOf(some.strip(), from);
            if (at < 0) {
                return false;
            }
            from = at + some.strip().length();
        }
        return true;
    }
}
