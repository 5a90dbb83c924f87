import java.util.Random;

/** Runs of calls drawn by a fixed seed, each answered by the class and by the model. */
public final class ModelTest {
    private static final int RUNS = 150, CALLS = 512;
    private static final Check CHECK = new Check();

    private final Random random;
    private final TideAsked tide = new TideAsked();
    private final Model model = new Model();
    private final int run;
    private int calls = 0;

    private ModelTest(int run) {
        this.run = run;
        this.random = new Random(run);
    }

    public static void main(String[] args) {
        for (int run = 0; run < RUNS; run++) {
            new ModelTest(run).play();
        }
        CHECK.end("ModelTest");
    }

    private void play() {
        if (random.nextInt(10) > 0) {
            writeShore();
        }
        while (calls < CALLS) {
            int which = random.nextInt(100);
            if (which < 2) {
                writeShore();
            } else if (which < 4) {
                writeNearly();
            } else if (which < 40) {
                change(random.nextInt(12));
            } else {
                look(random.nextInt(13));
            }
        }
    }

    private void due(String call, long got, long want) {
        calls++;
        CHECK.due("run " + run + ", call " + calls + ": " + call, got, want);
    }

    private String shoreText() {
        StringBuilder text = new StringBuilder();
        int sands = 3 + random.nextInt(6);
        int highest = 1 + random.nextInt(10);
        for (int i = 0; i < sands; i++) {
            text.append(random.nextInt(highest));
        }
        int boats = 1 + random.nextInt(3);
        for (int i = 0; i < boats; i++) {
            text.append(i == 0 ? ';' : ',').append(random.nextInt(sands)).append(random.nextInt(10));
        }
        int askers = 2 + random.nextInt(4);
        for (int i = 0; i < askers; i++) {
            text.append(i == 0 ? ';' : ',').append("arslf".charAt(random.nextInt(5)));
            text.append(random.nextInt(10));
        }
        return text.toString();
    }

    private void write(String text) {
        for (char code : text.toCharArray()) {
            due("letter " + code, tide.letter(code), model.letter(code));
        }
    }

    private void writeShore() {
        due("blank", tide.blank(), model.blank());
        write(shoreText());
        due("fault", tide.fault(), model.fault());
        due("shore", tide.shore(), model.shore());
    }

    // A shore with one letter other, more or less: whether it is one still is for both to say.
    private void writeNearly() {
        StringBuilder text = new StringBuilder(shoreText());
        char letter = "0123456789;,arslfb".charAt(random.nextInt(18));
        int at = random.nextInt(text.length());
        switch (random.nextInt(4)) {
            case 0 -> text.setCharAt(at, letter);
            case 1 -> text.insert(at, letter);
            case 2 -> text.deleteCharAt(at);
            default -> text.setLength(at);
        }
        due("blank", tide.blank(), model.blank());
        write(text.toString());
        due("fault of " + text, tide.fault(), model.fault());
        due("shore of " + text, tide.shore(), model.shore());
    }

    private int number(int most) {
        int which = random.nextInt(40);
        return which == 0 ? -1 : which == 1 ? most : which == 2 ? most + random.nextInt(60)
                : which == 3 ? Integer.MIN_VALUE : which == 4 ? Integer.MAX_VALUE
                : random.nextInt(most);
    }

    private void change(int which) {
        int a = number(5);
        int b = number(10);
        int c = number(10);
        switch (which) {
            case 0, 1, 2, 3 -> due("ask " + a, tide.ask(a), model.ask(a));
            case 4, 5 -> due("thank", tide.thank(), model.thank());
            case 6 -> due("draw " + a + " " + b, tide.draw(a, b), model.draw(a, b));
            case 7 -> due("heap " + b + " " + c, tide.heap(b, c), model.heap(b, c));
            case 8 -> {
                int kind = number(5);
                due("teach " + a + " " + kind + " " + b, tide.teach(a, kind, b), model.teach(a, kind, b));
            }
            case 9 -> {
                int high = random.nextBoolean() ? number(21) : tide.asker(a, 2);
                due("see " + a + " " + high, tide.see(a, high), model.see(a, high));
            }
            case 10 -> due("image", tide.image(), model.image());
            default -> {
                if (random.nextBoolean()) {
                    due("restore", tide.restore(), model.restore());
                } else {
                    due("forget", tide.forget(), model.forget());
                }
            }
        }
    }

    private void look(int which) {
        int a = number(5);
        int b = number(6);
        int place = random.nextBoolean() ? number(3) : 9 + number(6);
        switch (which) {
            case 0 -> due("sand " + a + " " + b, tide.sand(a, b), model.sand(a, b));
            case 1 -> due("boat " + a + " " + b, tide.boat(a, b), model.boat(a, b));
            case 2 -> due("asker " + a + " " + b, tide.asker(a, b), model.asker(a, b));
            case 3 -> due("as " + a + " " + b, tide.as(a, b), model.as(a, b));
            case 4 -> due("order " + place, tide.order(place), model.order(place));
            case 5 -> due("few " + a + " " + place, tide.few(a, place), model.few(a, place));
            case 6 -> due("good", tide.good(), model.good());
            case 7 -> {
                int tenths = number(11);
                int what = number(2);
                due("odds " + a + " " + tenths + " " + what, tide.odds(a, tenths, what),
                        model.odds(a, tenths, what));
            }
            case 8 -> due("send", tide.send(), model.send());
            case 9 -> {
                int times = number(61);
                int seed = random.nextInt();
                int what = number(3);
                due("seasons " + times + " " + seed + " " + what,
                        tide.seasons(times, seed, what), model.seasons(times, seed, what));
            }
            case 10 -> due("count " + (a + b), tide.count(a + b), model.count(a + b));
            case 11 -> {
                int code = number(127);
                due("letter " + code, tide.letter(code), model.letter(code));
            }
            default -> due("digest", tide.digest(), model.digest());
        }
    }
}
