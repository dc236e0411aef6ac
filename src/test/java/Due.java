import java.io.IOException;
import java.nio.file.Files;
import java.nio.file.Path;
import java.util.Set;
import java.util.TreeSet;

/**
 * Holds answers against those that are due, sentence by sentence. A sentence is quoted as it stands
 * in the document, so that a test cannot go on for words that the document does not have.
 */
final class Due {
  /** What calls that answer a long are refused with is this less the refusal's number. */
  static final long L = 4000000000000000000L;
  static final int TERMS = 0;
  static final int LAST_PROMISE = 34;
  private static final Path DOCUMENT = Path.of("../shared/DOC.md");

  /** A call, or several of them, of which the last one's answer matters. */
  interface Call {
    long on(HangsTogether x);
  }

  private static final String[] parts = new String[LAST_PROMISE + 1];
  private static final Set<Integer> quoted = new TreeSet<>();
  private static String sentence = "";
  private static int answersOfSentence = 1;
  private static int sentences = 0;
  private static int answers = 0;
  private static int wrong = 0;

  private Due() {
  }

  static void begin() throws IOException {
    String document = plain(Files.readString(DOCUMENT));
    int terms = document.indexOf("## What it is");
    for (int promise = 0; promise <= LAST_PROMISE; promise++) {
      int start = promise == TERMS ? terms : document.indexOf("## Promise " + promise + ":");
      int end = document.indexOf("## " + (promise == LAST_PROMISE ? "Not promised" : "Promise " + (promise + 1) + ":"));
      if (start < 0 || end < start) {
        fault("the document has no promise " + promise);
        parts[promise] = "";
      } else {
        parts[promise] = document.substring(start, end);
      }
    }
  }

  private static String plain(String text) {
    return text.replaceAll("\\s+", " ");
  }

  /** The answers that follow are those of these words of a promise, or of the terms. */
  static void sentence(int promise, String words) {
    leave();
    sentence = (promise == TERMS ? "terms" : "promise " + promise) + " \"" + words + "\"";
    answersOfSentence = 0;
    sentences++;
    quoted.add(promise);
    if (!parts[promise].contains(plain(words))) {
      fault("does not stand in the document");
    }
  }

  private static void leave() {
    if (answersOfSentence == 0) {
      fault("nothing was asked");
    }
  }

  private static void fault(String what) {
    wrong++;
    System.out.println(sentence + ": " + what);
  }

  static void is(String call, long got, long want) {
    answers++;
    answersOfSentence++;
    if (got != want) {
      fault(call + " answered " + got + ", due is " + want);
    }
  }

  static void end() {
    leave();
    for (int promise = 0; promise <= LAST_PROMISE; promise++) {
      if (!quoted.contains(promise)) {
        fault("no sentence of promise " + promise + " was looked at");
      }
    }
    System.out.println(sentences + " sentences, " + answers + " answers, " + wrong + " wrong");
    if (wrong > 0) {
      System.exit(1);
    }
  }

  static int feed(HangsTogether x, String text) {
    int letters = x.count(5);
    for (int i = 0; i < text.length(); i++) {
      letters = x.feed(text.charAt(i));
    }
    return letters;
  }

  static int tell(HangsTogether x, String text) {
    feed(x, text);
    return x.village();
  }

  /** A new object that was told these texts, each of them without a fault. */
  static HangsTogether of(String... texts) {
    HangsTogether x = new HangsTogether();
    for (String text : texts) {
      int told = tell(x, text);
      if (told <= 0) {
        fault("\"" + text + "\" answered " + told);
      }
    }
    return x;
  }

  /** A new object with so many lanes that are all alike. */
  static HangsTogether of(String houses, String lane, int lanes) {
    HangsTogether x = of(houses);
    for (int i = 0; i < lanes; i++) {
      if (tell(x, lane) != 1) {
        fault("\"" + lane + "\" is no lane");
      }
    }
    return x;
  }

  static int refusals(HangsTogether x) {
    int all = 0;
    for (int what = 11; what <= 16; what++) {
      all += x.count(what);
    }
    return all;
  }

  /** A fraction as one number: above the line times 1000000 and below it. */
  static long fraction(long above, long below) {
    return above * 1000000 + below;
  }
}
