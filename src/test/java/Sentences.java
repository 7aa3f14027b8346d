import java.io.IOException;
import java.util.function.Consumer;
import java.util.function.Supplier;
import java.util.function.ToIntFunction;

/**
 * Tests that each belong to a sentence of the document, or to a part of one: the words are quoted, must
 * stand in the document, and are told when an answer is not as due.
 */
final class Sentences {
  private final Check check = new Check();
  private final Document document = new Document();
  private String section = "";
  private int tests;

  Sentences() throws IOException {
  }

  void section(String title) {
    section = title;
  }

  void test(String quote, Consumer<Check> test) {
    quote(quote);
    check.about(section + ", \"" + quote + "\": ");
    int before = check.answers();
    try {
      test.accept(check);
    } catch (RuntimeException e) {
      check.dueTrue("the test ended without " + e, false);
    }
    check.dueTrue("the test looked at something", check.answers() > before);
    tests++;
  }

  /** Words that name no case to test, or whose cases are those of the sentence beside them. */
  void plain(String quote) {
    quote(quote);
  }

  private void quote(String quote) {
    check.about(section + ": ");
    check.dueTrue("the document says \"" + quote + "\"", document.quote(section, quote));
  }

  /** The sentence "Recorded." of a promise: one state is kept, that ahead of the call. */
  void recorded(Supplier<Watched> given, ToIntFunction<Watched> call) {
    test("Recorded.", c -> {
      Watched x = Given.withOneState(given.get());
      String before = Looks.ofState(x);
      c.due("states ahead", x.total(11), 1);
      c.dueTrue("no error", call.applyAsInt(x) >= 0);
      c.due("states then", x.total(11), 2);
      c.due("undo()", x.undo(), 1);
      c.dueText("the state ahead of the call", Looks.ofState(x), before);
    });
  }

  void end() {
    for (String title : document.sections()) {
      if (title.equals("Terms") || title.startsWith("Promise ")) {
        check.about(title + ": ");
        for (String piece : document.unquoted(title)) {
          check.dueTrue("a test of \"" + piece + "\"", false);
        }
      }
    }
    System.out.println(tests + " tests of sentences");
    check.end();
  }
}
