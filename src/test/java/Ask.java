import java.io.IOException;
import java.nio.file.Files;
import java.nio.file.Path;
import java.util.LinkedHashSet;
import java.util.Set;

/** What the tests by sentences share: a sentence of the document is quoted, then calls are held against it. */
final class Ask {
  private static final int[] EXTREMES = {Integer.MIN_VALUE, Integer.MIN_VALUE + 1, Integer.MAX_VALUE};

  private static final Set<String> quotes = new LinkedHashSet<>();
  private static String sentence = "";
  private static int asked = 0;
  private static int wrong = 0;

  private Ask() {
  }

  /** The calls that follow are held against this sentence, which stands so in the document. */
  static void sentence(String quote) {
    sentence = quote;
    quotes.add(quote);
  }

  static void due(String call, long got, long want) {
    asked++;
    if (got != want) {
      wrong++;
      System.out.println("\"" + sentence + "\": " + call + " answered " + got + ", due is " + want);
    }
  }

  static void due(String call, boolean got, boolean want) {
    due(call, got ? 1 : 0, want ? 1 : 0);
  }

  /** Numbers that are far outside every bound. */
  static int[] extremes() {
    return EXTREMES.clone();
  }

  static HillErrands town(int... heights) {
    HillErrands x = new HillErrands();
    for (int height : heights) {
      x.place(height);
    }
    return x;
  }

  /** So many places, all at one height. */
  static HillErrands level(int places) {
    return town(new int[places]);
  }

  /** Joins each two places that stand next to one another in the row. */
  static void row(HillErrands x, int sort, int... places) {
    for (int i = 1; i < places.length; i++) {
      x.stair(places[i - 1], places[i], sort);
    }
  }

  /** Feeds bytes; the last twenty are filled up with the letter a. */
  static void tape(HillErrands x, int... bytes) {
    for (int at = 0; at < bytes.length; at += 20) {
      int[] five = new int[5];
      for (int i = 0; i < 20; i++) {
        five[i / 4] = five[i / 4] << 8 | (at + i < bytes.length ? bytes[at + i] & 255 : 'a');
      }
      x.feed(five[0], five[1], five[2], five[3], five[4]);
    }
  }

  static int[] bytes(String text) {
    return text.chars().toArray();
  }

  /** The law of a text, by an empty tape. */
  static int law(HillErrands x, String text) {
    tape(x, bytes(text));
    return x.law(text.length());
  }

  static int round(HillErrands x, int home, int... order) {
    tape(x, order);
    return x.round(home, order.length);
  }

  /** Feeds numbers, four bytes each, and has them checked. */
  static int check(HillErrands x, int from, int... numbers) {
    int[] bytes = new int[4 * numbers.length];
    for (int i = 0; i < bytes.length; i++) {
      bytes[i] = numbers[i / 4] >>> 24 - i % 4 * 8 & 255;
    }
    tape(x, bytes);
    return x.check(from, numbers.length);
  }

  /** Ends the program, with 1 if an answer was wrong. Tells quotes that do not stand in the document (args[1]). */
  static void finish(String[] args) throws IOException {
    if (args.length > 1 && Files.isReadable(Path.of(args[1]))) {
      String document = Files.readString(Path.of(args[1])).replaceAll("\\s+", " ");
      for (String quote : quotes) {
        if (!document.contains(quote)) {
          System.out.println("not in the document: " + quote);
        }
      }
    }
    System.out.println(asked + " answers to " + quotes.size() + " sentences, " + wrong + " wrong");
    System.exit(wrong == 0 ? 0 : 1);
  }
}
