/** Promises 1 to 7, sentence by sentence: the bounds that the document names. */
public final class LinesBoundsTest {
    private static final String LONGEST = "m0>12@34-56!dpev";

    public static void main(String[] args) {
        nothingIsTold();
        nothingThereYet();
        oneJudge();
        threeMiles();
        everyCodeAtEveryPlace();
        endsTooSoon();
        oneOrTwoDigits();
        lettersOnce();
        emptyTexts();
        lastCells();
        sheetsAndLanes();
        faultsOfTexts();
        faultsInOrder();
        twentyFourEver();
        strikeBounds();
        struckDays();
        lineBounds();
        lineWithout();
        strengthAbove();
        daysFromTo();
        whoAllTheSame();
        firstThatDoes();
        deedBounds();
        forceBounds();
        Check.covers(1, 7);
        Check.end();
    }

    private static void nothingIsTold() {
        Check.says(1, "Nothing is told");
        DryLand other = new DryLand();
        Check.tell(other, LONGEST);
        other.cask(0, 5);
        other.tell(0);
        other.miles(9);
        other.court(4, 600);
        DryLand x = new DryLand();
        for (int what = 0; what <= 11; what++) {
            Check.due("many " + what, x.many(what), 0);
        }
        Check.due("twice", x.twice(), 0);
        Check.due("worlds", x.worlds(), 1);
        Check.due("voids", x.voids(), 0);
        Check.due("worst", x.worst(), DryLand.NONE);
        Check.due("dismiss", x.dismiss(), 0);
        Check.due("jury", x.jury(0, 0), DryLand.LOST);
        Check.due("trace", x.trace(), 0);
        Check.due("fault", x.fault(), 0);
        for (int day = 0; day <= 99; day += 99) {
            Check.due("stops", x.stops(0, 0, 99, 4, day), 0);
            Check.due("why", x.why(0, 0, 99, 4, day), DryLand.NONE);
            Check.due("force", x.force(day), 0);
            Check.due("least", x.least(day, -1), DryLand.NONE);
            Check.due("waiting", x.waiting(day), 0);
            Check.due("cut 0", x.cut(day, 0), 1);
            for (int what = 1; what <= 5; what++) {
                Check.due("cut " + what, x.cut(day, what), 0);
            }
        }
        Check.due("court", x.court(1, 300), 0);
        for (int k = 0; k <= 3; k++) {
            Check.due("lose " + k, x.lose(k), 0);
        }
    }

    private static void nothingThereYet() {
        Check.says(1, "Nothing is told");
        DryLand x = new DryLand();
        Check.due("strike", x.strike(0, 0), DryLand.UNKNOWN);
        Check.due("line", x.line(0, 0), DryLand.UNKNOWN);
        Check.due("slip", x.slip(0, 0, 0), DryLand.UNKNOWN);
        Check.due("tooMany", x.tooMany(0, -1), DryLand.UNKNOWN);
        Check.due("came", x.came(0, 0), DryLand.UNKNOWN);
        Check.due("meets", x.meets(0), DryLand.UNKNOWN);
        Check.due("sure", x.sure(0, 0), DryLand.UNKNOWN);
        Check.due("sure", x.sure(1, 0), DryLand.UNKNOWN);
        Check.due("drank", x.drank(0, 0, 0), DryLand.UNKNOWN);
        Check.due("fell", x.fell(0, true, 0), DryLand.UNKNOWN);
        Check.due("knew", x.knew(0), DryLand.UNKNOWN);
        Check.due("met", x.met(0, true), DryLand.UNKNOWN);
        Check.due("saved", x.saved(0), DryLand.UNKNOWN);
        Check.due("heard", x.heard(0, 0), DryLand.UNKNOWN);
        Check.due("week", x.week(0, 0), DryLand.UNKNOWN);
        Check.due("ofTown", x.ofTown(0, 0), DryLand.UNKNOWN);
        Check.due("tell", x.tell(0), DryLand.UNKNOWN);
        Check.due("hang", x.hang(0), DryLand.UNKNOWN);
        Check.due("as", x.as(0, 0), DryLand.UNKNOWN);
        Check.due("paper", x.paper(1), DryLand.OUTSIDE);
        Check.due("trace", x.trace(), 0);
    }

    private static void oneJudge() {
        Check.says(1, "one JUDGE");
        DryLand x = new DryLand();
        x.sue(300, 0, 0);
        x.sue(1, 0, 0);
        x.sue(301, 0, 0);
        Check.due("all of a day's minutes", x.heard(0, 3), 0);
        Check.due("one minute more", x.heard(1, 3), 1);
        Check.due("longer than any day", x.heard(2, 3), DryLand.NONE);
    }

    private static void threeMiles() {
        Check.says(1, "MILES 3");
        DryLand x = new DryLand();
        Check.due("nearer", x.chase(2, 0, 0, 0, 2, 0, 1), 0);
        Check.due("as far", x.chase(3, 0, 0, 0, 3, 0, 1), DryLand.NONE);
        Check.due("what they were", x.miles(1), 3);
    }

    /** Each start of a text, and the signs with which some text goes on. */
    private static final String[][] GOES_ON = {
        {"", "msck"},
        {"m", "0123*"}, {"s", "0123*"}, {"c", "0123*"}, {"k", "0123*"},
        {"m0", ">@"}, {"m3", ">@"}, {"m*", ">@"},
        {"m0>", "0123456789"},
        {"m0>0", "0123456789@"}, {"m0>9", "0123456789@"},
        {"m0>00", "@"}, {"m0>99", "@"},
        {"m0@", "0123456789"}, {"m0>1@", "0123456789"},
        {"m0@0", "0123456789-"}, {"m0@9", "0123456789-"},
        {"m0@00", "-"}, {"m0@99", "-"},
        {"m0@1-", "0123456789"},
        {"m0@1-0", "0123456789!"}, {"m0@1-9", "0123456789!"},
        {"m0@1-00", "!"}, {"m0@1-99", "!"},
        {"m0@1-2!", "dpev"},
        {"m0@1-2!d", "pev"}, {"m0@1-2!p", "dev"}, {"m0@1-2!e", "dpv"}, {"m0@1-2!v", "dpe"},
        {"m0@1-2!dp", "ev"}, {"m0@1-2!ve", "dp"}, {"m0@1-2!ed", "pv"},
        {"m0@1-2!dpe", "v"}, {"m0@1-2!vep", "d"}, {"m0@1-2!vde", "p"}, {"m0@1-2!dvp", "e"},
        {"m0@1-2!dpev", ""}, {"m0@1-2!vepd", ""},
    };

    private static void everyCodeAtEveryPlace() {
        Check.says(2, "the place (from 0 on) of the first code with which no TEXT goes on");
        for (String[] one : GOES_ON) {
            DryLand x = new DryLand();
            int place = one[0].length();
            Check.row(x, 0, 2, Check.codes(one[0] + " "));
            for (int code = 0; code < 128; code++) {
                x.put(0, place, code);
                boolean fits = one[1].indexOf(code) >= 0;
                Check.due(one[0] + " with " + code, doesGoOn(x, place), fits ? 1 : 0);
            }
            int[] wild = {-1, -128, 128, 255, 256 + 'm', 256 + '0', 65536 + '@', 65536 + '1', Integer.MIN_VALUE + '-',
                Integer.MAX_VALUE, ~'!', -'d'};
            for (int code : wild) {
                x.put(0, place, code);
                Check.due(one[0] + " with " + code, doesGoOn(x, place), 0);
            }
        }
    }

    /** Whether the text on sheet 0 goes on with the code at a place, which is its last one. */
    private static int doesGoOn(DryLand x, int place) {
        int answer = x.more(0, 0, 2, 0, place + 1);
        if (answer >= 0 || answer == -100 - (place + 1)) {
            return 1;
        }
        return answer == -100 - place ? 0 : answer;
    }

    private static void endsTooSoon() {
        Check.says(2, "how many codes there are, if it just ends too soon");
        DryLand x = new DryLand();
        Check.row(x, 0, 0, Check.codes(LONGEST));
        int lines = 0;
        for (int n = 0; n <= LONGEST.length(); n++) {
            // It is a text at either digit of the second day and at each letter.
            boolean isText = n == 10 || n == 11 || n >= 13;
            Check.due("n " + n, x.text(0, 0, 0, n), isText ? lines : -100 - n);
            lines += isText ? 1 : 0;
        }
        Check.due("many", x.many(0), 6);
    }

    private static void oneOrTwoDigits() {
        Check.says(2, "Numbers, days are one or two digits");
        DryLand x = new DryLand();
        String[] texts = {"m0>0@0-0", "m0>00@00-00", "m0>09@09-09", "m0>9@9-9", "m0>10@10-10", "m0>99@99-99"};
        int[] numbers = {0, 0, 9, 9, 10, 99};
        for (int l = 0; l < texts.length; l++) {
            Check.due("text " + texts[l], Check.tell(x, texts[l]), l);
            for (int what = 2; what <= 4; what++) {
                Check.due("line " + l + " " + what, x.line(l, what), numbers[l]);
            }
        }
        Check.due("no digit", Check.tell(x, "m0>@1-2"), -103);
        Check.due("three digits", Check.tell(x, "m0>100@1-2"), -105);
        Check.due("no day", Check.tell(x, "m0@-2"), -103);
        Check.due("three digits", Check.tell(x, "m0@100-2"), -105);
        Check.due("no day", Check.tell(x, "m0@1-!d"), -105);
        Check.due("three digits", Check.tell(x, "m0@1-100"), -107);
    }

    private static void lettersOnce() {
        Check.says(2, "perhaps ! and one to four letters, each once");
        DryLand x = new DryLand();
        String[] letters = {"!d", "!p", "!e", "!v", "!dp", "!ved", "!dpev", ""};
        int[] sets = {1, 2, 4, 8, 3, 13, 15, 0};
        for (int l = 0; l < letters.length; l++) {
            Check.due("text " + letters[l], Check.tell(x, "c1@1-2" + letters[l]), l);
            Check.due("line " + letters[l], x.line(l, 5), sets[l]);
        }
        Check.due("none", Check.tell(x, "c1@1-2!"), -107);
        Check.due("twice", Check.tell(x, "c1@1-2!vv"), -108);
        Check.due("twice", Check.tell(x, "c1@1-2!dpd"), -109);
        Check.due("twice", Check.tell(x, "c1@1-2!dpep"), -110);
        Check.due("five", Check.tell(x, "c1@1-2!dpeve"), -111);
        Check.due("many", x.many(0), letters.length);
    }

    private static void emptyTexts() {
        Check.says(2, "also where i is not 0 .. how many there are, if none of them is taken, too");
        DryLand x = new DryLand();
        Check.row(x, 0, 0, Check.codes("m0@1-2"));
        text(x, 0, 0, -1, 0, -13, 3);
        text(x, 0, 0, 0, 0, -100, 0);
        text(x, 0, 0, 6, 0, -100, 0);
        text(x, 0, 0, 7, 0, -13, 3);
        x.sheet(1, 0, 0);
        text(x, 1, 0, -1, 0, -13, 3);
        text(x, 1, 0, 0, 0, -100, 0);
        text(x, 1, 0, 1, 0, -13, 3);
        text(x, 1, 0, 0, 1, -13, 3);
        text(x, 0, 0, Integer.MIN_VALUE, 0, -13, 3);
        text(x, 0, 0, Integer.MAX_VALUE, 0, -13, 3);
    }

    private static void lastCells() {
        Check.says(2, "INDEX: not all cells are there");
        DryLand x = new DryLand();
        x.sheet(0, 1, 60);
        int[] codes = Check.codes("k*@0-99");
        for (int k = 0; k < codes.length; k++) {
            x.put(0, 53 + k, codes[k]);
        }
        text(x, 0, 1, 53, 7, 0, 0);
        text(x, 0, 1, 53, 8, -13, 3);
        text(x, 0, 1, 54, 7, -13, 3);
        text(x, 0, 1, -1, 8, -13, 3);
        text(x, 0, 1, 0, 60, -100, 0);
        text(x, 0, 1, 0, 61, -13, 3);
        text(x, 0, 1, 53, Integer.MAX_VALUE, -13, 3);
        text(x, 0, 1, Integer.MAX_VALUE, Integer.MAX_VALUE, -13, 3);
        text(x, 0, 1, Integer.MIN_VALUE, Integer.MAX_VALUE, -13, 3);
        Check.due("many", x.many(0), 1);
    }

    private static void sheetsAndLanes() {
        Check.says(2, "UNKNOWN; OUTSIDE: lane");
        DryLand x = new DryLand();
        for (int k = 0; k <= 3; k++) {
            Check.row(x, k, k % 3, Check.codes("m0@1-2"));
            text(x, k, k % 3, 0, 6, k, 0);
        }
        text(x, -1, 0, 0, 6, DryLand.UNKNOWN, 0);
        text(x, 4, 0, 0, 6, DryLand.UNKNOWN, 0);
        text(x, 0, -1, 0, 6, DryLand.OUTSIDE, 0);
        text(x, 0, 3, 0, 6, DryLand.OUTSIDE, 0);
        text(x, 4, 3, 0, 6, DryLand.UNKNOWN, 0);
        Check.due("many", x.many(0), 4);
    }

    private static void faultsOfTexts() {
        Check.says(2, "FAULTS CAST (nothing is no CAST), NULL, SIZE: n is below 0");
        DryLand x = new DryLand();
        for (int lane = 0; lane <= 2; lane++) {
            text(x, 0, lane, 0, 6, -11, 1);
        }
        for (int lane = 0; lane <= 2; lane++) {
            Check.row(x, 0, lane, Check.codes("m0@1-2"));
            text(x, 0, lane, 0, 6, lane, 0);
            text(x, 0, (lane + 1) % 3, 0, 6, -12, 2);
            text(x, 0, (lane + 2) % 3, 0, 6, -12, 2);
            text(x, 0, lane, 0, -1, -14, 4);
            text(x, 0, lane, 0, Integer.MIN_VALUE, -14, 4);
        }
        x.lose(0);
        text(x, 0, 2, 0, 6, -11, 1);
        Check.due("many", x.many(0), 3);
    }

    private static void faultsInOrder() {
        Check.says(2, "Of a call the first that is come to, in the order told");
        DryLand x = new DryLand();
        text(x, 4, 9, -9, -9, DryLand.UNKNOWN, 0);
        text(x, 0, 9, -9, -9, DryLand.OUTSIDE, 0);
        text(x, 0, 2, -9, -9, -11, 1);
        Check.row(x, 0, 1, Check.codes("m0@1-2"));
        text(x, 0, 9, -9, -9, DryLand.OUTSIDE, 0);
        text(x, 0, 2, -9, -9, -12, 2);
        text(x, 0, 1, -9, -9, -14, 4);
        text(x, 0, 1, -9, 0, -13, 3);
        text(x, 0, 1, 1, 6, -13, 3);
        text(x, 0, 1, 1, 5, -100, 0);
    }

    private static void twentyFourEver() {
        Check.says(2, "24 ever // -100 less it; FULL");
        DryLand x = new DryLand();
        Check.row(x, 0, 0, Check.codes("m0@1-2"));
        for (int l = 0; l < 24; l++) {
            text(x, 0, 0, 0, 6, l, 0);
        }
        text(x, 0, 0, 0, 6, DryLand.FULL, 0);
        x.strike(0, 0);
        x.strike(23, 0);
        text(x, 0, 0, 0, 6, DryLand.FULL, 0);
        text(x, 0, 0, 0, 5, -105, 0);
        text(x, 0, 0, 0, 7, -13, 3);
        text(x, 0, 0, 0, -1, -14, 4);
        text(x, 0, 1, 0, 6, -12, 2);
        text(x, 1, 0, 0, 6, -11, 1);
        text(x, 0, 3, 0, 6, DryLand.OUTSIDE, 0);
        text(x, 4, 0, 0, 6, DryLand.UNKNOWN, 0);
        Check.due("many", x.many(0), 24);
        Check.due("force", x.force(1), 22);
    }

    private static void text(DryLand x, int sheet, int lane, int i, int n, int want, int fault) {
        Check.due("text " + sheet + " " + lane + " " + i + " " + n, x.text(sheet, lane, i, n), want);
        Check.due("fault", x.fault(), fault);
    }

    private static void strikeBounds() {
        Check.says(3, "what it was (NONE). UNKNOWN; OUTSIDE.");
        DryLand x = new DryLand();
        Check.tell(x, "m0@0-99");
        Check.tell(x, "m0@0-99");
        Check.due("strike -1", x.strike(-1, 5), DryLand.UNKNOWN);
        Check.due("strike 2", x.strike(2, 5), DryLand.UNKNOWN);
        Check.due("strike 2", x.strike(2, 100), DryLand.UNKNOWN);
        Check.due("strike far", x.strike(Integer.MIN_VALUE, 5), DryLand.UNKNOWN);
        Check.due("strike far", x.strike(Integer.MAX_VALUE, 5), DryLand.UNKNOWN);
        Check.due("day -1", x.strike(0, -1), DryLand.OUTSIDE);
        Check.due("day 100", x.strike(1, 100), DryLand.OUTSIDE);
        Check.due("not struck", x.line(0, 6), DryLand.NONE);
        Check.due("not struck", x.line(1, 6), DryLand.NONE);
        Check.due("day 0", x.strike(0, 0), DryLand.NONE);
        Check.due("day 99", x.strike(1, 99), DryLand.NONE);
        Check.due("in place of 0", x.strike(0, 99), 0);
        Check.due("in place of 99", x.strike(1, 0), 99);
        Check.due("refused", x.strike(0, 100), DryLand.OUTSIDE);
        Check.due("as it was", x.line(0, 6), 99);
        Check.due("as it was", x.line(1, 6), 0);
    }

    private static void struckDays() {
        Check.says(3, "STRUCK on a day: from that on it is none");
        DryLand x = new DryLand();
        Check.tell(x, "m0@10-20");
        int[] struck = {0, 10, 11, 20, 21, 99};
        int[] last = {-1, 9, 10, 19, 20, 20};
        for (int k = 0; k < struck.length; k++) {
            x.strike(0, struck[k]);
            for (int day = 8; day <= 22; day++) {
                int stands = day >= 10 && day <= last[k] ? 1 : 0;
                Check.due("struck on " + struck[k] + ", day " + day, x.stops(0, 0, 0, 4, day), stands);
                Check.due("struck on " + struck[k] + ", force " + day, x.force(day), stands);
            }
        }
    }

    private static void lineBounds() {
        Check.says(4, "UNKNOWN; OUTSIDE");
        DryLand x = new DryLand();
        Check.tell(x, "k3>99@98-99!v");
        Check.tell(x, "m0@0-1");
        for (int l : new int[] {-1, 2, Integer.MIN_VALUE, Integer.MAX_VALUE}) {
            Check.due("line " + l, x.line(l, 0), DryLand.UNKNOWN);
            Check.due("line " + l, x.line(l, 7), DryLand.UNKNOWN);
        }
        for (int what : new int[] {-1, 7, Integer.MIN_VALUE, Integer.MAX_VALUE}) {
            Check.due("what " + what, x.line(0, what), DryLand.OUTSIDE);
        }
        int[] want = {3, 3, 99, 98, 99, 8, DryLand.NONE};
        for (int what = 0; what <= 6; what++) {
            Check.due("what " + what, x.line(0, what), want[what]);
        }
    }

    private static void lineWithout() {
        Check.says(4, "1 kind (4 any), 2 the number (NONE)");
        DryLand x = new DryLand();
        String[] kinds = {"0", "1", "2", "3", "*"};
        for (int k = 0; k <= 4; k++) {
            Check.tell(x, "s" + kinds[k] + "@1-2");
            Check.due("kind " + kinds[k], x.line(k, 1), k);
            Check.due("no number", x.line(k, 2), DryLand.NONE);
            Check.due("no letters", x.line(k, 5), 0);
        }
        Check.tell(x, "s0>0@1-2");
        Check.due("number 0", x.line(5, 2), 0);
        String[] verbs = {"m", "s", "c", "k"};
        for (int k = 0; k <= 3; k++) {
            Check.tell(x, verbs[k] + "0@1-2");
            Check.due("verb " + verbs[k], x.line(6 + k, 0), k);
        }
    }

    private static void strengthAbove() {
        Check.says(5, "the strength is above its number (if it has one)");
        DryLand x = new DryLand();
        Check.tell(x, "m0>0@0-99");
        Check.tell(x, "m1>50@0-99");
        Check.tell(x, "m2>99@0-99");
        Check.tell(x, "m3@0-99");
        int[][] stops = {{0, 0, 0}, {0, 1, 1}, {1, 49, 0}, {1, 50, 0}, {1, 51, 1}, {1, 99, 1}, {2, 98, 0}, {2, 99, 0},
            {3, 0, 1}, {3, 99, 1}};
        for (int[] s : stops) {
            Check.due("kind " + s[0] + " strength " + s[1], x.stops(0, s[0], s[1], 4, 50), s[2]);
        }
    }

    private static void daysFromTo() {
        Check.says(5, "the day is from .. to");
        DryLand x = new DryLand();
        Check.tell(x, "m0@5-8");
        Check.tell(x, "m1@5-5");
        Check.tell(x, "m2@8-5");
        Check.tell(x, "m3@0-99");
        Check.tell(x, "s0@0-0");
        Check.tell(x, "s1@99-99");
        int[][] stops = {{0, 0, 4, 0}, {0, 0, 5, 1}, {0, 0, 8, 1}, {0, 0, 9, 0}, {0, 1, 4, 0}, {0, 1, 5, 1},
            {0, 1, 6, 0}, {0, 2, 4, 0}, {0, 2, 5, 0}, {0, 2, 6, 0}, {0, 2, 8, 0}, {0, 2, 9, 0}, {0, 3, 0, 1},
            {0, 3, 99, 1}, {1, 0, 0, 1}, {1, 0, 1, 0}, {1, 1, 98, 0}, {1, 1, 99, 1}};
        for (int[] s : stops) {
            Check.due("verb " + s[0] + " kind " + s[1] + " day " + s[2], x.stops(s[0], s[1], 0, 4, s[2]), s[3]);
        }
    }

    private static void whoAllTheSame() {
        Check.says(5, "who is none of its letters");
        String letters = "dpev";
        for (int set = 0; set < 16; set++) {
            DryLand x = new DryLand();
            StringBuilder text = new StringBuilder(set == 0 ? "m0@0-99" : "m0@0-99!");
            for (int who = 0; who < 4; who++) {
                if ((set >> who & 1) != 0) {
                    text.append(letters.charAt(who));
                }
            }
            Check.tell(x, text.toString());
            for (int who = 0; who <= 4; who++) {
                int want = who < 4 && (set >> who & 1) != 0 ? 0 : 1;
                Check.due(text + " who " + who, x.stops(0, 0, 0, who, 0), want);
            }
        }
    }

    private static void firstThatDoes() {
        Check.says(6, "WHY: the first that does");
        DryLand x = new DryLand();
        Check.due("no line", x.why(0, 0, 0, 4, 0), DryLand.NONE);
        Check.tell(x, "m1@0-50");
        Check.tell(x, "m*>10@0-60!d");
        Check.tell(x, "m0@0-70");
        Check.tell(x, "m*@0-70");
        Check.due("the third", x.why(0, 0, 10, 4, 0), 2);
        Check.due("the second", x.why(0, 0, 11, 4, 0), 1);
        Check.due("but for doctors", x.why(0, 0, 11, 0, 0), 2);
        Check.due("the first", x.why(0, 1, 11, 4, 50), 0);
        Check.due("it has ended", x.why(0, 1, 11, 4, 51), 1);
        Check.due("the last", x.why(0, 1, 11, 4, 61), 3);
        Check.due("none on 71", x.why(0, 1, 11, 4, 71), DryLand.NONE);
        Check.due("another verb", x.why(1, 1, 11, 4, 50), DryLand.NONE);
        x.strike(0, 50);
        Check.due("it was struck", x.why(0, 1, 11, 4, 50), 1);
        Check.due("ahead of that", x.why(0, 1, 11, 4, 49), 0);
    }

    private static void deedBounds() {
        DryLand x = new DryLand();
        for (char verb : "msck".toCharArray()) {
            Check.tell(x, verb + "*@0-99");
        }
        int[] least = {0, 0, 0, 0, 0};
        int[] most = {3, 3, 99, 4, 99};
        for (int k = 0; k < 5; k++) {
            deed(x, k, least[k] - 1, false);
            deed(x, k, least[k], true);
            deed(x, k, most[k], true);
            deed(x, k, most[k] + 1, false);
            deed(x, k, Integer.MIN_VALUE, false);
            deed(x, k, Integer.MAX_VALUE, false);
        }
    }

    private static void deed(DryLand x, int which, int value, boolean isOne) {
        int[] d = {0, 0, 0, 0, 0};
        d[which] = value;
        String call = " with " + value + " at " + which;
        Check.says(5, "OUTSIDE");
        Check.due("stops" + call, x.stops(d[0], d[1], d[2], d[3], d[4]), isOne ? 1 : DryLand.OUTSIDE);
        Check.says(6, "OUTSIDE");
        Check.due("why" + call, x.why(d[0], d[1], d[2], d[3], d[4]), isOne ? d[0] : DryLand.OUTSIDE);
    }

    private static void forceBounds() {
        Check.says(7, "How many LINES are in force on a DAY. OUTSIDE");
        DryLand x = new DryLand();
        Check.due("no line", x.force(0), 0);
        Check.tell(x, "m0@0-0");
        Check.tell(x, "m0@99-99");
        Check.tell(x, "m0@1-98");
        Check.tell(x, "m0@98-1");
        Check.due("day -1", x.force(-1), DryLand.OUTSIDE);
        Check.due("day 100", x.force(100), DryLand.OUTSIDE);
        for (int day : new int[] {0, 1, 98, 99}) {
            Check.due("day " + day, x.force(day), 1);
        }
        x.strike(2, 98);
        Check.due("ahead of it", x.force(97), 1);
        Check.due("struck", x.force(98), 0);
        Check.due("day far", x.force(Integer.MIN_VALUE), DryLand.OUTSIDE);
        Check.due("day far", x.force(Integer.MAX_VALUE), DryLand.OUTSIDE);
    }
}
