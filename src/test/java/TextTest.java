/** Promises 13 (append), 14 (clearText), 15 (faultPosition) and 16 (run). */
public final class TextTest {
  private static final Check check = new Check();

  public static void main(String[] args) {
    appending();
    clearing();
    textsWithoutFault();
    faults();
    running();
    runUntilAnError();
    runAndHistory();
    longestText();
    check.end();
  }

  private static void write(Watched x, String text) {
    x.clearText();
    for (int n = 0; n < text.length(); n++) {
      x.append(text.charAt(n));
    }
  }

  private static void appending() {
    Watched x = new Watched();
    check.due("byte 31", x.append(31), -2);
    check.due("byte 127", x.append(127), -2);
    check.due("byte -1", x.append(-1), -2);
    check.due("byte 256 + 115", x.append(256 + 115), -2);
    check.due("byte least", x.append(Integer.MIN_VALUE), -2);
    check.due("length", x.total(12), 0);
    check.due("byte 32", x.append(32), 1);
    check.due("byte 126", x.append(126), 2);
    for (int length = 3; length <= 80; length++) {
      check.due("append(49)", x.append(49), length);
    }
    check.due("the 81st", x.append(49), -4);
    check.due("value ahead of full", x.append(31), -2);
    check.due("length then", x.total(12), 80);
    check.due("it is not recorded", x.total(11), 0);
  }

  private static void clearing() {
    Watched x = new Watched();
    check.due("an empty text", x.clearText(), 0);
    write(x, "abc");
    check.due("three bytes", x.clearText(), 3);
    check.due("length", x.total(12), 0);
    check.due("no fault", x.faultPosition(), -5);
    check.due("again", x.clearText(), 0);
    check.due("it is not recorded", x.total(11), 0);
    check.due("append after it", x.append(114), 1);
  }

  private static void textsWithoutFault() {
    Watched x = new Watched();
    String[] texts = {
        "", "s0n0f0;", "s3n255f99;", "s1n100f10;", "r0;", "r7;", "u0;", "u7;", "t1;", "t9;",
        "t10;", "t99;", "r0;u0;t1;s0n0f0;", "t1;t1;t1;", "s2n9f9;r3;",
    };
    for (String text : texts) {
      write(x, text);
      check.due("fault of " + text, x.faultPosition(), -5);
      check.due("run of " + text, x.run() >= 0 ? 0 : 1, 0);
      write(x, text + "x");
      check.due("fault of " + text + "x", x.faultPosition(), text.length());
    }
  }

  private static void faults() {
    faultOf("s", 1);
    faultOf("s0", 2);
    faultOf("s0n", 3);
    faultOf("s0n1", 4);
    faultOf("s0n1f", 5);
    faultOf("s0n1f2", 6);
    faultOf("r", 1);
    faultOf("u3", 2);
    faultOf("t12", 3);
    faultOf("t1;r0", 5);
    faultOf("t1;x", 3);
    faultOf(" t1;", 0);
    faultOf("t 1;", 1);
    faultOf("t1 ;", 2);
    faultOf("t1; t1;", 3);
    faultOf(";", 0);
    faultOf("t1;;", 3);
    faultOf("S0n0f0;", 0);
    faultOf("s0f0;", 2);
    faultOf("s0n0;", 4);
    faultOf("sn0f0;", 1);
    faultOf("s0nf0;", 3);
    faultOf("t;", 1);
    faultOf("t/;", 1);
    faultOf("t:;", 1);
    faultOf("t-1;", 1);
    faultsOfNumbers();
  }

  private static void faultsOfNumbers() {
    faultOf("s4n0f0;", 1);
    faultOf("s4", 1);
    faultOf("s10n0f0;", 1);
    faultOf("s0n256f0;", 3);
    faultOf("s0n256", 3);
    faultOf("s0n999f0;", 3);
    faultOf("s0n2550;", 6);
    faultOf("s0n2560;", 3);
    faultOf("s0n1000", 6);
    faultOf("s0n0f100;", 5);
    faultOf("s0n0f990;", 5);
    faultOf("s0n0f1000;", 5);
    faultOf("r8;", 1);
    faultOf("r10;", 1);
    faultOf("u8", 1);
    faultOf("u77x", 1);
    faultOf("t100;", 1);
    faultOf("t0;", 1);
    faultOf("t0", 1);
    faultOf("t01;", 1);
    faultOf("t999999", 1);
    faultOf("r00;", 2);
    faultOf("r01;", 2);
    faultOf("s00n0f0;", 2);
    faultOf("s0n00f0;", 4);
    faultOf("s0n012f0;", 4);
    faultOf("s0n0f01;", 6);
    faultOf("s0n0f0x", 6);
    faultOf("t99;t100;", 5);
  }

  private static void faultOf(String text, int want) {
    Watched x = new Watched();
    write(x, text);
    check.due("fault of " + text, x.faultPosition(), want);
    String before = Looks.ofAll(x);
    check.due("run of " + text, x.run(), -3);
    check.dueText("after run of " + text, Looks.ofAll(x), before);
  }

  private static Watched withSite() {
    Watched x = new Watched();
    x.addSite(0, 64, 5);
    x.setSlot(0, 0, 4, 0, 1);
    x.addRouter();
    x.addRouter();
    return x;
  }

  private static void running() {
    Watched x = withSite();
    write(x, "r0;s1n63f99;t4;s1n0f0;u0;s1n5f5;");
    check.due("run()", x.run(), 6);
    check.due("hour", x.total(0), 4);
    check.due("end of the registration", x.site(0, 4), 4);
    check.due("letters", x.router(1, 3), 3);
    check.due("letters of the other router", x.router(0, 3), 0);
    check.due("asks", x.router(1, 1), 2);
    check.due("letters by a proxy", x.router(1, 4), 1);
    check.due("old maps", x.router(1, 5), 1);
    check.due("the text stays", x.total(12), 32);
    check.due("it has no fault", x.faultPosition(), -5);
    check.due("run() again", x.run(), 6);
    check.due("hour then", x.total(0), 8);
    x.setSlot(0, 0, 0, 0, 1);
    check.due("a letter that arrives at place 0", runOf(x, "r0;s0n0f0;t1;"), 3);
    check.due("hour at last", x.total(0), 9);
  }

  private static void runUntilAnError() {
    Watched x = withSite();
    write(x, "t1;u0;t1;");
    check.due("until a site that is not registered", x.run(), 1);
    check.due("hour", x.total(0), 1);
    write(x, "t1;s2n0f0;t1;");
    check.due("until a router that is not there", x.run(), 1);
    check.due("hour then", x.total(0), 2);
    write(x, "r1;t1;");
    check.due("until a site that is not there", x.run(), 0);
    check.due("hour as before", x.total(0), 2);
    check.due("a site that is not there, u", runOf(x, "u1;t1;"), 0);
    for (int n = 0; n < 100; n++) {
      x.pass(99);
    }
    check.due("until hour 9999", runOf(x, "t97;t1;t1;"), 1);
    check.due("hour at last", x.total(0), 9999);
  }

  private static int runOf(Watched x, String text) {
    write(x, text);
    return x.run();
  }

  private static void runAndHistory() {
    Watched x = withSite();
    check.due("states ahead", x.total(11), 4);
    String before = Looks.ofState(x);
    check.due("three acts", runOf(x, "r0;t2;s0n0f0;"), 3);
    check.due("one state", x.total(11), 5);
    check.due("undo()", x.undo(), 4);
    check.dueText("the state ahead", Looks.ofState(x), before);
    check.due("the text stays", x.total(12), 13);
    check.due("no act", runOf(x, ""), 0);
    check.due("it is recorded", x.total(11), 5);
    x.undo();
    check.due("an error at once", runOf(x, "u0;"), 0);
    check.due("it is recorded too", x.total(11), 5);
    check.due("a fault", runOf(x, "u0"), -3);
    check.due("it is not recorded", x.total(11), 5);
  }

  private static void longestText() {
    Watched x = new Watched();
    x.addSite(0, 1, 1);
    StringBuilder text = new StringBuilder();
    for (int n = 0; n < 26; n++) {
      text.append("r0;");
    }
    check.due("26 acts", runOf(x, text.toString()), 26);
    text.append("t1");
    check.due("80 bytes and no semicolon", runOf(x, text.toString()), -3);
    check.due("fault position", x.faultPosition(), 80);
    check.due("no room for it", x.append(';'), -4);
  }
}
