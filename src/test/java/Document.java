import java.io.IOException;
import java.nio.file.Files;
import java.nio.file.Path;
import java.util.ArrayList;
import java.util.BitSet;
import java.util.LinkedHashMap;
import java.util.List;
import java.util.Map;

/** The words of ../shared/DOC.md, section by section, and which of them were quoted. */
final class Document {
  private static final Path FILE = Path.of("../shared/DOC.md");

  private final Map<String, String> words = new LinkedHashMap<>();
  private final Map<String, BitSet> quoted = new LinkedHashMap<>();

  /** Without the file, as on a machine that has the tests alone, every quote is taken as it is. */
  private final boolean isThere = Files.exists(FILE);

  Document() throws IOException {
    if (!isThere) {
      System.out.println("no " + FILE + ": what the tests quote is not compared with it");
      return;
    }
    for (String section : Files.readString(FILE).split("(?m)^## ")) {
      int end = section.indexOf('\n');
      String title = section.substring(0, Math.max(end, 0)).replaceAll(":.*", "").strip();
      words.put(title, plain(section.substring(Math.max(end, 0))));
      quoted.put(title, new BitSet());
    }
  }

  private static String plain(String text) {
    return text.replace("`", "").replaceAll("(?m)^(- |[0-9]\\. )", "").replaceAll("\\s+", " ").strip();
  }

  /** Tells whether a section has these words; those that were not quoted yet are taken first. */
  boolean quote(String section, String quote) {
    if (!isThere) {
      return true;
    }
    String text = words.getOrDefault(section, "");
    int first = text.indexOf(quote);
    int at = first;
    while (at >= 0 && isQuoted(section, at, at + quote.length())) {
      at = text.indexOf(quote, at + 1);
    }
    if (first < 0 || quote.isEmpty()) {
      return false;
    }
    int begin = at < 0 ? first : at;
    quoted.get(section).set(begin, begin + quote.length());
    return true;
  }

  private boolean isQuoted(String section, int from, int to) {
    return quoted.get(section).nextClearBit(from) >= to;
  }

  /** The words of a section that nobody quoted, in pieces. */
  List<String> unquoted(String section) {
    String text = words.getOrDefault(section, "");
    BitSet bits = quoted.getOrDefault(section, new BitSet());
    List<String> pieces = new ArrayList<>();
    int from = bits.nextClearBit(0);
    while (from < text.length()) {
      int next = bits.nextSetBit(from);
      int to = next < 0 ? text.length() : next;
      String piece = text.substring(from, to);
      if (piece.matches(".*[A-Za-z0-9].*")) {
        pieces.add(piece.strip());
      }
      from = bits.nextClearBit(to);
    }
    return pieces;
  }

  List<String> sections() {
    return List.copyOf(words.keySet());
  }
}
