/** The boundaries of the text and the board: promises 1 to 5, and THE TEXT of the description. */
public final class TextBoundsTest extends Bounds {
  private static final String PLACE = "abcdefghijklmnop", DIGIT = "0123456789", CODE = "adclwjzb";
  /** A board for each kind of part. */
  private static final String[] BOARDS = {"Ria09", "Rid3", "Ric30", "Ril37", "Riw00", "Rij0p", "Riz", "Rib", "Rhp2", "Rha0t0pa1",
      "Rha0T0q39999"};

  public static void main(String[] args) {
    begin("bounds of the text");
    newObject();
    write();
    wipe();
    instructions();
    harts();
    triggers();
    atMost();
    anyOrder();
    firstFault();
    board();
    end();
  }

  private static void newObject() {
    sentence("Creates a system without a program, harts and triggers; the text is empty, the seed is 0");
    HaltRing x = new HaltRing();
    for (int what = 0; what <= 11; what++) due("count(" + what + ")", x.count(what), 0);
    for (int c = 0; c <= 7; c++) due("cell(" + c + ")", x.cell(c), 0);
    due("hart(0, 0)", x.hart(0, 0), UNKNOWN);
    due("trigger(0, 0)", x.trigger(0, 0), UNKNOWN);
    due("order(0, 0)", x.order(0, 0), UNKNOWN);
    due("fault()", x.fault(), 0);
    due("undo()", x.undo(), STATE);
    due("again(0)", x.again(0), STATE);
    due("again(1)", x.again(1), STATE);
    due("unsee()", x.unsee(), 0);
    due("wipe()", x.wipe(), 0);
    due("seed(1)", x.seed(1), 0);
    sentence("Creates a system without harts: every call that asks for one answers UNKNOWN, ticks pass all the same");
    due("tick(99)", x.tick(99), 0);
    due("send(0, 0, 0, 0)", x.send(0, 0, 0, 0), UNKNOWN);
    due("set(0, ..)", x.set(0, 0, 0, 0, 1, false), UNKNOWN);
    due("ahead(0, 0, 0)", x.ahead(0, 0, 0), UNKNOWN);
    due("halts(0)", x.halts(0), UNKNOWN);
    due("soonest(0)", x.soonest(0), UNKNOWN);
    due("share(0, true)", x.share(0, true), UNKNOWN);
    due("undo()", x.undo(), 0);
  }

  private static void write() {
    sentence("letter: 0 to 255; OUTSIDE if letter is out of range");
    for (int letter : new int[] {-1, 256, MIN, MAX}) {
      unchanged("write(" + letter + ")", Bounds::busy, OUTSIDE, x -> x.write(letter));
      unchanged("write(" + letter + ") to a full text", Bounds::full, OUTSIDE, x -> x.write(letter));
    }
    HaltRing x = new HaltRing();
    due("write(0)", x.write(0), 1);
    due("write(255)", x.write(255), 2);
    sentence("FULL if the text has 150 characters");
    for (int n = 3; n <= 150; n++) due("write(82)", x.write(82), n);
    due("the character after 150", x.write(82), FULL);
    due("count(0)", x.count(0), 150);
    refused("write", Bounds::full, FULL, HaltRing::write, 0, 82, 255);
    sentence("Appends a character to the text: the last of 150 is read like the first");
    HaltRing last = new HaltRing();
    String board = "R" + "ia00".repeat(16) + "ha0".repeat(4) + "t0q00001".repeat(6);
    Check.write(last, board + "x".repeat(150 - board.length()));
    due("fault()", last.fault(), board.length());
  }

  private static void wipe() {
    sentence("Empties the text. Returns the length that it had");
    HaltRing x = new HaltRing();
    due("wipe() of an empty text", x.wipe(), 0);
    for (int i = 0; i < 150; i++) x.write('x');
    due("wipe() of a full text", x.wipe(), 150);
    due("wipe() again", x.wipe(), 0);
    due("fault()", x.fault(), 0);
    for (int n = 1; n <= 150; n++) due("there is room for 150 again", x.write('R'), n);
    due("and no more", x.write('R'), FULL);
  }

  /**
   * Each of the 256 characters at each position of a board, and behind it: it can stand there just if it is one of
   * those that are given for the position.
   */
  private static void positions(String board, String... may) {
    due(board + ": a row for each position, and for behind it", may.length, board.length() + 1);
    for (int i = 0; i < may.length; i++) {
      String before = board.substring(0, i);
      String behind = i < board.length() ? board.substring(i + 1) : "";
      for (char c = 0; c <= 255; c++) {
        int alone = faultOf(before + c);
        boolean can = may[i].indexOf(c) >= 0;
        String text = before + "[" + (int) c + "]";
        if (can) due(text + " has no fault before its end", alone == NONE || alone == i + 1 ? 1 : 0, 1);
        else due("fault of " + text, alone, i);
        if (!can) due("fault of " + text + behind, faultOf(before + c + behind), i);
      }
    }
    due("fault of " + board, faultOf(board), NONE);
  }

  private static int faultOf(String text) {
    HaltRing x = new HaltRing();
    Check.write(x, text);
    return x.fault();
  }

  private static void instructions() {
    sentence("R, followed by zero or more parts");
    positions("R", "R", "ih");
    due("fault of an empty text", faultOf(""), 0);
    sentence("i and an instruction: its letter, and then its numbers, each as a digit, but k of j as a letter a to p");
    positions("Ria09", "R", "ih", CODE, "0123", DIGIT, "ih");
    positions("Rid3", "R", "ih", CODE, "0123", "ih");
    positions("Ric30", "R", "ih", CODE, "0123", "0123", "ih");
    positions("Ril37", "R", "ih", CODE, "0123", "01234567", "ih");
    positions("Riw00", "R", "ih", CODE, "0123", "01234567", "ih");
    positions("Rij0p", "R", "ih", CODE, "0123", PLACE, "ih");
    positions("Riz", "R", "ih", CODE, "ih");
    positions("Rib", "R", "ih", CODE, "ih");
  }

  private static void harts() {
    sentence("h, a letter a to p (first place) and a digit 0 to 2 (group): a hart");
    positions("Rhp2", "R", "ih", PLACE, "012", "ihtT");
    for (int first = 0; first <= 15; first++) {
      for (int group = 0; group <= 2; group++) {
        HaltRing x = Check.with("Rh" + PLACE.charAt(first) + group);
        dueHart("h" + PLACE.charAt(first) + group, x, 0, first, 0, 0, 0, 0, 0, 0, 0, group, first);
      }
    }
  }

  private static void triggers() {
    sentence("t, the digit of a hart that was written before, p, a letter a to p (place k), a digit 1 to 9 (count)");
    positions("Rha0t0pa1", "R", "ih", PLACE, "012", "ihtT", "0", "pq", PLACE, "123456789", "ihtT");
    positions("Rha0T0pp9", "R", "ih", PLACE, "012", "ihtT", "0", "pq", PLACE, "123456789", "ihtT");
    for (String tail : new String[] {"t0pa1 0 0 0 0 1 1 0", "T0pa9 0 0 0 0 9 9 1", "t0pp1 0 0 15 0 1 1 0", "T0pp9 0 0 15 0 9 9 1"}) {
      dueRow(tail);
    }
    sentence("t, the digit of a hart, q, a digit 0 to 3 (register), three digits (value), a digit 1 to 9 (count); with T chained");
    positions("Rha0t0q00001", "R", "ih", PLACE, "012", "ihtT", "0", "pq", "0123", DIGIT, DIGIT, DIGIT, "123456789", "ihtT");
    positions("Rha0T0q39999", "R", "ih", PLACE, "012", "ihtT", "0", "pq", "0123", DIGIT, DIGIT, DIGIT, "123456789", "ihtT");
    for (String tail : new String[] {"t0q00001 0 1 0 0 1 1 0", "T0q39999 0 1 3 999 9 9 1", "t0q10015 0 1 1 1 5 5 0",
        "t0q20105 0 1 2 10 5 5 0", "T0q31005 0 1 3 100 5 5 1"}) {
      dueRow(tail);
    }
    sentence("the digit of a hart that was written before");
    positions("Rha0ha0t1pa1ha0t2pp9", "R", "ih", PLACE, "012", "ihtT", PLACE, "012", "ihtT", "01", "pq", PLACE, "123456789",
        "ihtT", PLACE, "012", "ihtT", "012", "pq", PLACE, "123456789", "ihtT");
    positions("Rha0hb1hc2hd0t3pa1", "R", "ih", PLACE, "012", "ihtT", PLACE, "012", "ihtT", PLACE, "012", "ihtT", PLACE, "012",
        "itT", "0123", "pq", PLACE, "123456789", "itT");
    due("the hart of t3pa1", Check.with("Rha0hb1hc2hd0t3pa1").trigger(0, 0), 3);
    due("the hart of t0pa1", Check.with("Rha0hb1hc2hd0t0pa1").trigger(0, 0), 0);
  }

  /** A trigger as it is written and, behind it, its properties. */
  private static void dueRow(String tail) {
    String[] part = tail.split(" ");
    int[] row = new int[part.length - 1];
    for (int i = 0; i < row.length; i++) row[i] = Integer.parseInt(part[i + 1]);
    dueTrigger(part[0], Check.with("Rha0" + part[0]), 0, row);
  }

  /** What can stand behind a text, of the characters that begin a part. */
  private static void goesOn(String text, String may) {
    for (char c : "Riht T".toCharArray()) {
      int end = text.length();
      boolean can = may.indexOf(c) >= 0;
      due("fault of " + text + c, faultOf(text + c), can ? end + 1 : end);
      // z is an instruction, but neither a place nor the digit of a hart
      due("fault of " + text + c + "z", faultOf(text + c + "z"), !can ? end : c == 'i' ? NONE : end + 1);
    }
  }

  private static void atMost() {
    sentence("at most 16 (instructions): a seventeenth i cannot stand there");
    goesOn("R" + "iz".repeat(15), "ih");
    goesOn("R" + "iz".repeat(16), "h");
    due("16 instructions", Check.with("R" + "iz".repeat(16)).count(1), 16);
    sentence("at most 4 (harts): a fifth h cannot stand there");
    goesOn("R" + "ha0".repeat(3), "ihtT");
    goesOn("R" + "ha0".repeat(4), "itT");
    due("4 harts", Check.with("R" + "ha0".repeat(4)).board(), 4);
    sentence("at most 6 triggers: a seventh trigger cannot stand there");
    for (String t : new String[] {"t0pa1", "T0pa1", "t0q00001", "T0q00001"}) {
      goesOn("Rha0" + t.repeat(5), "ihtT");
      goesOn("Rha0" + t.repeat(6), "ih");
      due("6 triggers", Check.with("Rha0" + t.repeat(6)).count(3), 6);
    }
    sentence("a trigger before any hart: its letter");
    goesOn("R", "ih");
    goesOn("Riz", "ih");
    goesOn("Rizha0", "ihtT");
    sentence("the longest board");
    String most = "R" + "ia00".repeat(16) + "ha0".repeat(4) + "T0q00001".repeat(6);
    goesOn(most, "");
    HaltRing x = Check.with(most);
    due("instructions", x.count(1), 16);
    due("harts", x.count(2), 4);
    due("triggers", x.count(3), 6);
  }

  private static void anyOrder() {
    sentence("zero or more parts in any order, without spaces");
    String[] parts = {"ia01", "ha1", "t0pa1", "ib", "hp2", "T1q00012"};
    for (int first = 0; first < 6; first++) {
      for (int second = 0; second < 6; second++) {
        String text = "Rha0" + parts[first] + parts[second];
        // hart 1 is there only if it was written before the trigger that names it
        boolean tooEarly = first == 5 || second == 5 && first != 1 && first != 4;
        int at = first == 5 ? 5 : 4 + parts[first].length() + 1;
        due("fault of " + text, faultOf(text), tooEarly ? at : NONE);
      }
    }
    HaltRing x = Check.with("Ribhc1t0pb2ia01hd2T1q20033iz");
    due("instructions", x.count(1), 3);
    due("harts", x.count(2), 2);
    due("triggers", x.count(3), 2);
    dueHart("the second hart", x, 1, 3, 0, 0, 0, 0, 0, 0, 0, 2, 3);
    dueTrigger("the second trigger", x, 1, 1, 1, 2, 3, 3, 3, 1);
    for (String text : new String[] {" R", "R ", "R iz", "Ri z", "Ria 01", "Rha0 t0pa1", "Rha0t0q0 001"}) {
      due("fault of '" + text + "'", faultOf(text), text.indexOf(' '));
    }
  }

  private static void firstFault() {
    sentence("The fault of a text is the index of the first character that cannot stand there");
    due("two that cannot", faultOf("Rix0h9"), 2);
    due("two that cannot", faultOf("xx"), 0);
    due("the second R", faultOf("RR"), 1);
    due("one that cannot and one that is required", faultOf("Rha9t"), 3);
    sentence("or the length of the text if a further character is required");
    for (String board : BOARDS) {
      int part = Math.max(board.indexOf('t'), board.indexOf('T'));
      for (int length = 0; length < board.length(); length++) {
        boolean whole = length == 1 || length == part;
        due("fault of " + board.substring(0, length), faultOf(board.substring(0, length)), whole ? NONE : length);
      }
    }
    sentence("Empties the text: what stood behind its new end does not count");
    for (String board : BOARDS) {
      for (int length = 0; length < board.length(); length++) {
        HaltRing x = new HaltRing();
        Check.write(x, board);
        x.wipe();
        Check.write(x, board.substring(0, length));
        due("fault of " + board.substring(0, length), x.fault(), faultOf(board.substring(0, length)));
      }
    }
  }

  private static void board() {
    sentence("STATE if the text has a fault");
    unchanged("board() of a full text", Bounds::full, STATE, HaltRing::board);
    for (String text : new String[] {"", "x", "Ri", "Rha3", "Rha0t", "Rha0t0pa1x"}) {
      Setup faulty = () -> {
        HaltRing x = busy();
        x.wipe();
        Check.write(x, text);
        return x;
      };
      unchanged("board() of '" + text + "'", faulty, STATE, HaltRing::board);
    }
    sentence("Returns the number of harts");
    for (int n = 0; n <= 4; n++) {
      HaltRing x = new HaltRing();
      Check.write(x, "R" + "ha0".repeat(n));
      due("board() with " + n, x.board(), n);
    }
    sentence("Replaces the system by the board of the text. All cells are 0, the debug module is as at the beginning");
    HaltRing x = busy();
    for (int c = 0; c <= 7; c++) x.poke(c, 999);
    x.send(3, 0, 0, 0);
    due("there is an error", x.count(6), 1);
    due("board()", x.board(), 2);
    int[] counts = {21, 2, 2, 1, 0, 0, 0, 0, 0, 0, 0, 5};
    for (int what = 0; what <= 11; what++) due("count(" + what + ")", x.count(what), counts[what]);
    for (int c = 0; c <= 7; c++) due("cell(" + c + ")", x.cell(c), 0);
    dueHart("after board()", x, 0, 1, 0, 0, 0, 0, 0, 0, 0, 2, 1);
    dueHart("after board()", x, 1, 15, 0, 0, 0, 0, 0, 0, 0, 1, 15);
    dueTrigger("after board()", x, 0, 1, 1, 3, 999, 8, 8, 1);
    due("hart(2, 0)", x.hart(2, 0), UNKNOWN);
    due("trigger(1, 0)", x.trigger(1, 0), UNKNOWN);
    sentence("there are no orders and no acts, and the slots are empty. The text, the sights and the seed stay");
    due("order(0, 0)", x.order(0, 0), UNKNOWN);
    due("undo()", x.undo(), STATE);
    due("again(0)", x.again(0), STATE);
    due("again(1)", x.again(1), STATE);
    due("unsee()", x.unsee(), 5);
    due("seed(0)", x.seed(0), 987654321987654321L);
    due("fault()", x.fault(), NONE);
    due("board() again", x.board(), 2);
    due("data was not kept either", dataAfterBoard(), 0);
  }

  private static int dataAfterBoard() {
    HaltRing x = halted("Ria01ha0", 9);
    x.send(3, 0, 0, 0); x.tick(2);
    due("data before", x.count(7), 9);
    x.board();
    return x.count(7);
  }
}
