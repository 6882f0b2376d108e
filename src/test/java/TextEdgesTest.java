/** ==== 3. of the document, sentence by sentence: bytes, TOKENS, CLAUSES, FAULTS, results and NAMES at their edges. */
public final class TextEdgesTest {
    private static final int NONE = ShipSways.NONE;
    private static final int MAX = Integer.MAX_VALUE;
    private static final int MIN = Integer.MIN_VALUE;
    private static final int BLANKS = 0x20202020;

    private TextEdgesTest() {
    }

    public static void main(String[] args) {
        bytesHaveRoom();
        bytesInOrder();
        end();
        everyByte();
        blanks();
        asLongAsCanBe();
        clauses();
        grammar();
        numbers();
        depth();
        depthIsGivenBack();
        firstFault();
        endsTooEarly();
        faultsLeaveNothing();
        results();
        quotients();
        compares();
        binding();
        rulesOfText();
        rulesOfLongText();
        holds();
        names();
        namesInTheLastTick();
        movedAndLost();
        Due.end();
    }

    private static int feedBlanks(ShipSways x) {
        return x.feed(BLANKS, BLANKS, BLANKS, BLANKS, BLANKS);
    }

    private static void bytesHaveRoom() {
        Due.of("TEXTS have at most 300 bytes; feed: NONE if there would be more than 300");
        ShipSways x = new ShipSways();
        for (int i = 1; i <= 15; i++) {
            Due.is("feed", 20 * i, feedBlanks(x));
            Due.is("bytes", 20 * i, x.count(6));
        }
        Due.is("a sixteenth", NONE, x.feed(MIN, MAX, 0, -1, 1));
        Due.is("bytes", 300, x.count(6));
        Due.is("all are blanks", NONE, x.fault());
        for (int left : new int[] {299, 281}) {
            Due.yes("end(" + left + ")", x.end(left));
            Due.is("no room for 20", NONE, x.feed(MIN, MAX, 0, -1, 1));
            Due.is("bytes", left, x.count(6));
            Due.is("all are blanks", NONE, x.fault());
        }
        Due.yes("end(280)", x.end(280));
        Due.is("just room", 300, feedBlanks(x));
        Due.yes("rules()", x.rules());
        Due.is("room again", 20, feedBlanks(x));
    }

    private static void bytesInOrder() {
        Due.of("Bytes come behind those of the TEXT, of each number the highest first (20 of them)");
        for (int place = 0; place < 20; place++) {
            ShipSways x = new ShipSways();
            feedBlanks(x);
            int[] n = {BLANKS, BLANKS, BLANKS, BLANKS, BLANKS};
            int shift = 24 - 8 * (place % 4);
            n[place / 4] = n[place / 4] & ~(255 << shift) | 255 << shift;
            Due.is("feed", 40, x.feed(n[0], n[1], n[2], n[3], n[4]));
            Due.is("byte " + place, 20 + place, x.fault());
        }
        ShipSways x = new ShipSways();
        feedBlanks(x);
        Due.yes("end(3)", x.end(3));
        Due.is("behind what is left", 23, x.feed(-1, -1, -1, -1, -1));
        Due.is("the first of them", 3, x.fault());
    }

    private static void end() {
        Due.of("The TEXT has its first n bytes alone: true; false if it has not so many, or n is below 0");
        ShipSways x = new ShipSways();
        for (int n : new int[] {MIN, -1, 1, 20, 300, 301, MAX}) {
            Due.no("end(" + n + ") of none", x.end(n));
        }
        Due.yes("end(0) of none", x.end(0));
        Texts.put(x, "work 1=1;fin 1=1;$$$");
        for (int n : new int[] {MIN, -1, 21, 300, MAX}) {
            Due.no("end(" + n + ") of 20", x.end(n));
            Due.is("bytes", 20, x.count(6));
        }
        Due.is("fault", 17, x.fault());
        Due.yes("end(20)", x.end(20));
        Due.is("all are there", 17, x.fault());
        Due.yes("end(18)", x.end(18));
        Due.is("fault", 17, x.fault());
        Due.yes("end(17)", x.end(17));
        Due.is("no fault", NONE, x.fault());
        Due.no("end(18), gone", x.end(18));
        Due.yes("end(0)", x.end(0));
        Due.is("bytes", 0, x.count(6));
        Due.is("of none", NONE, x.fault());
    }

    private static void everyByte() {
        Due.of("TOKENS are words of small letters, numbers of digits, and + - * / ( ) [ ] < > = ; with any blanks (32)");
        for (int b = 0; b < 256; b++) {
            char c = (char) b;
            // Behind 1=1 a digit goes on, a blank is nothing, a sign of an E wants more, a second ; can't stand.
            boolean goesOn = c == ' ' || c >= '0' && c <= '9';
            boolean wantsMore = "+-*/;".indexOf(c) >= 0;
            int due = goesOn ? NONE : wantsMore ? 9 : 8;
            Due.is("behind an E: byte " + b, due, Texts.fault(new ShipSways(), "work 1=1" + c + ";"));
            // Ahead of 1=1 a ( or [ stays open, a digit goes ahead, a letter makes a word that can't be told.
            boolean opens = c == '(';
            int ahead = goesOn ? NONE : opens ? 7 : c == '[' ? 9 : 5;
            Due.is("ahead of an E: byte " + b, ahead, Texts.fault(new ShipSways(), "work " + c + "1=1;"));
            boolean word = c >= 'a' && c <= 'z';
            // As a token of its own, where a CLAUSE may begin: none but blanks may stand there.
            Due.is("alone: byte " + b, c == ' ' ? NONE : 9, Texts.fault(new ShipSways(), "fin 1=1; " + c));
            // A letter makes the word longer, all else ends it.
            int end = word ? 0 : goesOn ? NONE : c == '(' ? 6 : c == '[' ? 8 : 4;
            Due.is("behind a word: byte " + b, end, Texts.fault(new ShipSways(), "work" + c + "1=1;"));
        }
    }

    private static void blanks() {
        Due.of("with any blanks (32) between");
        right("  work   1   =   1   ;   fin not [ ( 1 ) < 2 ] ;  ");
        right("work 1=1;fin not[(1)<2];");
        right("work[1=1]or[1=1]and[1=1];");
        right("work 1=1or 1=1and 1=1;");
        wrong("wo rk 1=1;", 0);
        wrong("work 1 1=1;", 7);
        wrong("work slo pe=1;", 5);
    }

    private static void asLongAsCanBe() {
        Due.of("words and numbers as long as can be");
        wrong("workfin 1=1;", 0);
        wrong("workslope=1;", 0);
        wrong("work notslope=1;", 5);
        wrong("work slopeor 1=1;", 5);
        wrong("work 1=1 orslope=1;", 9);
        wrong("work slopes=1;", 5);
        wrong("work slop=1;", 5);
        wrong("work 99991=1;", 5);
        right("work1=1;");
        right("work 1=1or2=2;");
        right("work not1=1;");
    }

    private static void clauses() {
        Due.of("A TEXT is CLAUSES, none or more, each at most once: work C ; fin C ;");
        right("");
        right("   ");
        right("work 1=1;");
        right("fin 1=1;");
        right("work 1=1; fin 1=1;");
        right("fin 1=1; work 1=1;");
        wrong("work 1=1; work 1=1;", 10);
        wrong("fin 1=1; fin 1=1;", 9);
        wrong("work 1=1; fin 1=1; work 1=1;", 19);
        wrong("fin 1=1; work 1=1; fin 1=1;", 19);
        wrong("fin 1=1; work 1=1; slope", 19);
        wrong("and", 0);
        wrong("slope=1;", 0);
        wrong("1=1;", 0);
        wrong("; work 1=1;", 0);
    }

    private static void grammar() {
        Due.of("C is A, any number of or A; A is B, ..; B is not B, [ C ], E < E, ..; E is T, ..; T is F, ..; F is a number, a NAME or ( E )");
        String[] names = {"slope", "speed", "tick", "sick", "sea", "wet", "moved"};
        for (String name : names) {
            right("work " + name + "=0;");
            wrong("work " + name + "x=0;", 5);
            wrong("work x" + name + "=0;", 5);
            wrong("work " + name.substring(1) + "=0;", 5);
        }
        for (String sign : new String[] {"<", ">", "="}) {
            right("work 1" + sign + "1;");
            wrong("work 1" + sign + ";", 7);
            wrong("work " + sign + "1;", 5);
            wrong("work 1" + sign + sign + "1;", 7);
            wrong("work 1=1" + sign + "1;", 8);
        }
        for (String sign : new String[] {"+", "-", "*", "/"}) {
            right("work 1" + sign + "1=1;");
            wrong("work " + sign + "1=1;", 5);
            wrong("work 1" + sign + "=1;", 7);
            wrong("work 1" + sign + sign + "1=1;", 7);
            wrong("work [1=1]" + sign + "1=1;", 10);
        }
        for (String word : new String[] {"or ", "and "}) {
            right("work 1=1 " + word + "1=1;");
            wrong("work " + word + "1=1;", 5);
            wrong("work 1=1 " + word + ";", 9 + word.length());
            wrong("work 1=1 " + word + word + "1=1;", 9 + word.length());
            wrong("work 1 " + word + "1=1;", 7);
            wrong("work (1 " + word + "1)=1;", 8);
        }
        wrong("work (1=1);", 7);
        wrong("work ([1=1]);", 6);
        wrong("work (not 1=1);", 6);
        wrong("work [1];", 7);
        wrong("work [1=1);", 9);
        wrong("work (1]=1;", 7);
        wrong("work [];", 6);
        wrong("work ()=1;", 6);
        wrong("work 1=1 not 1=1;", 9);
        wrong("work 1=1 [1=1];", 9);
        wrong("work 1(1)=1;", 6);
        wrong("work (1)(1)=1;", 8);
        wrong("work [1=1][1=1];", 10);
        wrong("work 1=1];", 8);
        wrong("work (1))=1;", 8);
        wrong("work 1=1 work 1=1;", 9);
        wrong("work fin=1;", 5);
    }

    private static void numbers() {
        Due.of("a number (0 .. 9999); a number too great");
        for (String n : new String[] {"0", "00", "9", "9999", "09999", "0".repeat(280) + "9999"}) {
            right("work " + n + "=1;");
        }
        String[] great = {"10000", "010000", "99999", "65536", "2147483647", "2147483648", "4294967296", "4294967297",
            "18446744073709551616", "9".repeat(280), "1" + "0".repeat(280), "0".repeat(270) + "10000"};
        for (String n : great) {
            wrong("work " + n + "=1;", 5);
            if (n.length() < 30) {
                wrong("work 1 = 2 and slope < " + n + " or 1=1;", 23);
            }
        }
        holds("9999=9998+1", 1);
        holds("0=1-1", 1);
        holds("0009=9", 1);
    }

    private static void depth() {
        Due.of("( [ and not open what is one deeper; 8 at most; what opens too deep");
        for (int inside = 7; inside <= 10; inside++) {
            String parens = "(".repeat(inside) + "1" + ")".repeat(inside) + "=1;";
            String brackets = "[".repeat(inside) + "1=1" + "]".repeat(inside) + ";";
            String nots = "not ".repeat(inside) + "1=1;";
            if (inside <= 8) {
                right("work " + parens);
                right("work 1=" + parens.replace("=1;", ";"));
                right("work " + brackets);
                right("work " + nots);
            } else {
                wrong("work " + parens, 13);
                wrong("work 1=" + parens.replace("=1;", ";"), 15);
                wrong("work " + brackets, 13);
                wrong("work " + nots, 37);
            }
        }
        for (int a = 0; a <= 8; a++) {
            for (int b = 0; a + b <= 8; b++) {
                int c = 8 - a - b;
                String open = "not ".repeat(a) + "[".repeat(b);
                String deep = "work " + open + "(".repeat(c);
                right(deep + "1" + ")".repeat(c) + "=1" + "]".repeat(b) + ";");
                wrong(deep + "(1" + ")".repeat(c + 1) + "=1" + "]".repeat(b) + ";", deep.length());
                if (c == 0) {
                    wrong(deep + "[1=1]" + "]".repeat(b) + ";", deep.length());
                    wrong(deep + "not 1=1" + "]".repeat(b) + ";", deep.length());
                    wrong(deep + "1=(1)" + "]".repeat(b) + ";", deep.length() + 2);
                    wrong(deep + "1=1+(1)" + "]".repeat(b) + ";", deep.length() + 4);
                }
            }
        }
    }

    private static void depthIsGivenBack() {
        Due.of("( [ and not open what is one deeper: what is behind isn't");
        String nots = "not ".repeat(8) + "1=1";
        right("work " + nots + " or " + nots + " and " + nots + ";");
        right("work " + nots + ";fin " + nots + ";");
        wrong("work " + nots + " or not " + nots + ";", 76);
        right("work not[not[not[not[1=1]and not 1=1]and not not not 1=1]];");
        right("work [[[[[[[[1=1]]]]]]]]and[[[[[[[[1=1]]]]]]]];");
        right("work (((((((1)+(1))+(1))+(1))+(1))+(1))+(1))+(1)=((((((((1))))))));");
        right("work not(((((((1)))))))=1;");
        wrong("work not((((((((1))))))))=1;", 15);
        wrong("work not 1=((((((((1))))))));", 18);
        right("work not 1=1 and 1=((((((((1))))))));");
        right("work not[1=1]or 1=((((((((1))))))));");
        wrong("work [not 1=1 or 1=((((((((1))))))))];", 26);
        right("work [not 1=1 or 1=(((((((1)))))))];");
    }

    private static void firstFault() {
        Due.of("the place (from 0 on) of the first byte of the first TOKEN that can't stand there, or of a byte that begins no TOKEN, if that is ahead");
        wrong("$", 0);
        wrong(" $", 1);
        wrong("work $ work", 5);
        wrong("work = $", 5);
        wrong("work $ =", 5);
        wrong("work 1=1; fin ; $", 14);
        wrong("work 1=1; fin $ ;", 14);
        wrong("work 10000 $", 5);
        wrong("work $ 10000", 5);
        wrong("work 1=1; work $", 10);
        wrong("work ((((((((( $", 13);
        wrong("work slope$=1;", 10);
        wrong("work 12$=1;", 7);
        wrong("work 1=1;$", 9);
        wrong("work 1=1; unknown", 10);
        wrong("work 1 $", 7);
        wrong("work 1=1 unknown $", 9);
    }

    private static void endsTooEarly() {
        Due.of("the length, if it ends too early; NONE without");
        String whole = "work not[(1+2)*3<slope or 4/5-6>speed]and 7=8;";
        int clauseEnds = 0;
        for (int n = 1; n <= whole.length(); n++) {
            String text = whole.substring(0, n);
            int fault = Texts.fault(new ShipSways(), text);
            // A word that is cut short is another word, unless it is still long enough to be one.
            boolean cutWord = text.matches(".*\\b(w|wo|wor|n|no|s|sl|slo|slop|o|sp|spe|spee|a|an)");
            int due = n == whole.length() ? NONE : cutWord ? text.replaceFirst("[a-z]+$", "").length() : n;
            Due.is("fault of " + text, due, fault);
            clauseEnds += fault == NONE ? 1 : 0;
            if (!cutWord && n < whole.length()) {
                wrong(text + "   ", n + 3);
            }
        }
        Due.is("but one is whole", 1, clauseEnds);
        // 300 bytes without an end.
        wrong("work 1=1" + " or 1=1".repeat(41) + " or 1", 300);
    }

    private static void faultsLeaveNothing() {
        Due.of("The FAULT of the TEXT: of this one, whatever was read ahead of it");
        String[] wrong = {
            "work ((((((((", "work [[[[[[[[", "work not not not not not not not not", "work [(1", "work (((((((((", "work 1=1 or [(1)=(", "fin (1;", "fin [1=1;",
            "work 1=1; fin [", "work 1 < 2 and", "fin not", "work 1=2;work", "work 1=1 $"
        };
        String[] right = {"work not not not not [[((1))=1]];", "fin ((((((((1))))))))=1;", "fin 1=1; work [[[[[[[[1=1]]]]]]]];", "", "work 1=1;"};
        for (String one : wrong) {
            ShipSways x = new ShipSways();
            for (String other : right) {
                Due.yes("a FAULT of " + one, Texts.fault(x, one) != NONE);
                Due.no("rules of " + one, x.rules());
                Due.is("behind " + one + ": " + other, NONE, Texts.fault(x, other));
                Due.yes("rules of " + other, x.rules());
                Due.is("work", 1, x.holds(0));
                Due.is("fin", 1, x.holds(1));
            }
        }
    }

    private static void results() {
        Due.of("Results of + - * are brought into -1000000 .. 1000000");
        String most = "1000*1000";
        String almost = "999*1000+999";
        String[] same = {
            most + "=" + almost + "+1", most + "+1=" + most, "9999*9999=" + most, "1001*1000=" + most, "9999*9999-1=" + almost,
            "0-" + most + "-1=0-" + most, "0-9999*9999=0-" + most, "(0-1001)*1000=0-" + most, "1001*(0-1000)=0-" + most,
            "(0-1000)*1000=0-" + most, "0-" + most + "=0-" + almost.replace("+", "-") + "-1", "0-" + most + "-1+1=0-" + almost.replace("+", "-"),
            most + "+" + most + "-" + most + "=0", most + "*" + most + "=" + most, "0-" + most + "*" + most + "=0-" + most,
            "(0-" + most + ")*" + most + "=0-" + most, "(0-" + most + ")*(0-" + most + ")=" + most, "(0-" + most + ")-" + most + "=0-" + most
        };
        for (String c : same) {
            holds(c, 1);
        }
        holds(most + ">" + almost, 1);
        holds("0-" + most + "<0-" + almost.replace("+", "-"), 1);
        holds(most + "-1=" + most, 0);
        holds("1-" + most + "=0-" + most, 0);
    }

    private static void quotients() {
        Due.of("/ is cut toward 0, by 0 it is 0");
        String[] same = {
            "7/2=3", "(0-7)/2=0-3", "7/(0-2)=0-3", "(0-7)/(0-2)=3", "1/2=0", "(0-1)/2=0", "6/2=3", "(0-6)/2=0-3", "9999/1=9999",
            "1/0=0", "0/0=0", "(0-1)/0=0", "9999*9999/0=0", "5/0+3=3", "8/(2-2)=0", "0/5=0", "1000*1000/(0-1)=0-1000*1000", "2*3/0*5=0"
        };
        for (String c : same) {
            holds(c, 1);
        }
    }

    private static void compares() {
        Due.of("E < E, E > E or E = E");
        holds("1<2", 1);
        holds("2<2", 0);
        holds("3<2", 0);
        holds("1>2", 0);
        holds("2>2", 0);
        holds("3>2", 1);
        holds("1=2", 0);
        holds("2=2", 1);
        holds("3=2", 0);
        holds("0-1<0", 1);
        holds("0>0-1", 1);
    }

    private static void binding() {
        Due.of("C is A, any number of or A; A is B, any number of and B; B is not B");
        String[] bits = {"1=2", "1=1"};
        for (int i = 0; i < 8; i++) {
            int a = i & 1;
            int b = i >> 1 & 1;
            int c = i >> 2;
            holds(bits[a] + " or " + bits[b] + " and " + bits[c], a | b & c);
            holds(bits[a] + " and " + bits[b] + " or " + bits[c], a & b | c);
            holds("[" + bits[a] + " or " + bits[b] + "]and " + bits[c], (a | b) & c);
            holds("not " + bits[a] + " and " + bits[b] + " or " + bits[c], (1 - a) & b | c);
            holds("not[" + bits[a] + " and " + bits[b] + "]or " + bits[c], 1 - (a & b) | c);
            holds("not not " + bits[a] + " and not " + bits[b] + " or not not not " + bits[c], a & (1 - b) | (1 - c));
        }
        holds("10-4-3=3", 1);
        holds("10-(4-3)=9", 1);
        holds("100/10/5=2", 1);
        holds("100/(10/5)=50", 1);
        holds("2+3*4=14", 1);
        holds("2*3+4=10", 1);
        holds("7-6/3=5", 1);
        holds("9/2*2=8", 1);
        holds("9*2/2=9", 1);
    }

    private static void rulesOfText() {
        Due.of("THE RULES come of the TEXT, which is empty then: true; false with a FAULT (it stays)");
        ShipSways x = new ShipSways();
        Texts.put(x, "work 1=2; fin 1=2;");
        Due.yes("rules()", x.rules());
        Due.is("empty", 0, x.count(6));
        isHeld(x, 0, 0);
        Texts.put(x, "work 1=1; fin 1=1");
        Due.no("rules() with a FAULT", x.rules());
        Due.is("it stays", 17, x.count(6));
        Due.is("with its FAULT", 17, x.fault());
        isHeld(x, 0, 0);
        Due.no("rules() again", x.rules());
        // One ; behind it, and it is right.
        Due.is("feed", 37, x.feed(0x3b202020, BLANKS, BLANKS, BLANKS, BLANKS));
        Due.is("no FAULT", NONE, x.fault());
        isHeld(x, 0, 0);
        Due.yes("rules()", x.rules());
        isHeld(x, 1, 1);
        Due.of("in place of all that were; without a CLAUSE it holds");
        Texts.rule(x, "fin 1=2;");
        isHeld(x, 1, 0);
        Texts.rule(x, "work 1=2;");
        isHeld(x, 0, 1);
        Due.yes("rules() of an empty TEXT", x.rules());
        isHeld(x, 1, 1);
        Texts.rule(x, "work 1=2;fin 1=2;");
        isHeld(x, 0, 0);
        Texts.rule(x, "     ");
        isHeld(x, 1, 1);
    }

    private static void isHeld(ShipSways x, int work, int fin) {
        Due.is("work", work, x.holds(0));
        Due.is("fin", fin, x.holds(1));
    }

    private static void rulesOfLongText() {
        Due.of("TEXTS have at most 300 bytes");
        ShipSways x = new ShipSways();
        Texts.rule(x, "work 0" + "+1".repeat(144) + "=144; ");
        Due.is("300 bytes", 1, x.holds(0));
        Texts.rule(x, "work 0" + "+1".repeat(144) + "=145; ");
        Due.is("300 bytes", 0, x.holds(0));
        Texts.rule(x, "fin 1=2" + "or 1=2".repeat(47) + "or 1=1;");
        Due.is("296 bytes", 1, x.holds(1));
    }

    private static void holds() {
        Due.of("Whether work (0) or fin (1) holds NOW: 1 or 0; NONE for others, or if NOW is 600");
        ShipSways x = Fleet.ship("barge");
        Texts.rule(x, "work tick=599; fin tick<599;");
        for (int clause : new int[] {MIN, -1, 2, MAX}) {
            Due.is("holds(" + clause + ")", NONE, x.holds(clause));
        }
        isHeld(x, 0, 1);
        for (int i = 0; i < 5; i++) {
            x.go(100);
        }
        x.go(99);
        isHeld(x, 1, 0);
        x.go(1);
        isHeld(x, NONE, NONE);
        Due.is("WORKED in the last TICK alone", 1, x.count(8));
        Due.is("holds(2)", NONE, x.holds(2));
        Texts.rule(x, "");
        isHeld(x, NONE, NONE);
    }

    private static void names() {
        Due.of("NAMES are as they are when it is asked");
        ShipSways x = new ShipSways();
        isNow(x, "slope=0 and speed=0 and tick=0 and sick=0 and sea=0 and wet=0 and moved=0");
        x.slice(20, 99999, 99999);
        x.weight(400, 0, 0, NONE);
        x.weight(1, 0, 0, 0);
        x.weight(1, 19, 0, 0);
        x.weight(1, 0, 0, NONE);
        x.mark(-19, 0);
        x.mark(0, 40);
        x.mark(-19, 1);
        x.wave(30, 64, 12);
        x.set(0, 1000000);
        x.set(2, 1);
        isNow(x, "slope=0 and speed=0 and tick=0 and sick=0 and sea=0-30 and wet=0 and moved=0");
        x.go(1);
        isNow(x, "slope=0-30 and speed=0-30 and tick=1 and sick=26 and sea=0-30 and wet=2 and moved=0");
        x.go(1);
        isNow(x, "slope=0-60 and speed=0-30 and tick=2 and sick=52 and sea=0-30 and wet=2 and moved=2");
        // Behind OVER they stay as they were, but the TICKS go.
        x.go(1);
        Due.is("OVER", 1, x.count(9));
        isNow(x, "slope=0-80 and speed=0-30 and tick=3 and sick=78 and sea=0-30 and moved=2");
        x.go(4);
        isNow(x, "slope=0-80 and speed=0-30 and tick=7 and sick=78 and sea=0-27 and moved=2");
    }

    private static void namesInTheLastTick() {
        Due.of("tick; sea: THE SEA's push in it");
        ShipSways x = Fleet.ship("barge");
        x.wave(60, 4, 0);
        x.set(0, 1);
        for (int i = 0; i < 5; i++) {
            x.go(100);
        }
        x.go(99);
        isNow(x, "tick=599 and sea=0-60");
    }

    private static void movedAndLost() {
        Due.of("moved: how many WEIGHTS aren't where they were told");
        ShipSways x = new ShipSways();
        x.slice(20, 99999, 99999);
        x.weight(400, 0, 0, NONE);
        for (int i = 0; i < 11; i++) {
            x.weight(1, i - 5, 0, 0);
        }
        x.wave(1, 4, 4);
        x.set(0, 1000000);
        x.set(2, 1);
        // SPEED 1, 1, 0, 0 in turn: SLOPE 1, 2, 2, 2, ..; each LOOSE one goes from the second TICK on.
        x.go(1);
        isNow(x, "moved=0");
        x.go(1);
        isNow(x, "moved=11");
        x.lose(11);
        isNow(x, "moved=10");
    }

    private static void isNow(ShipSways x, String condition) {
        Texts.rule(x, "work " + condition + ";fin not[" + condition + "];");
        Due.is(condition, 1, x.holds(0));
        Due.is("not: " + condition, 0, x.holds(1));
        Texts.rule(x, "");
    }

    private static void right(String text) {
        ShipSways x = new ShipSways();
        Due.is("fault of " + text, NONE, Texts.fault(x, text));
        Due.yes("rules of " + text, x.rules());
        Due.is("empty: " + text, 0, x.count(6));
    }

    private static void wrong(String text, int place) {
        ShipSways x = new ShipSways();
        Due.is("fault of " + text, place, Texts.fault(x, text));
        Due.no("rules of " + text, x.rules());
        Due.is("it stays: " + text, text.length(), x.count(6));
        Due.is("no rule: " + text, 1, x.holds(0) & x.holds(1));
    }

    private static void holds(String condition, int want) {
        ShipSways x = new ShipSways();
        Texts.rule(x, "work " + condition + ";");
        Due.is("work " + condition, want, x.holds(0));
        Texts.rule(x, "fin not[" + condition + "];");
        Due.is("fin not[" + condition + "]", 1 - want, x.holds(1));
    }
}
