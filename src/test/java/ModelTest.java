import java.util.List;
import java.util.Random;

/** Runs of calls on districts drawn by a fixed seed, each answer against that of the slow model. */
public final class ModelTest {
    private static final int RUNS = 150;
    private static final int CALLS = 60;

    private final Random random;
    private final Model model;
    private final CenturyGates x = new CenturyGates();
    private final String run;

    private ModelTest(int number) {
        run = "run " + number + ": ";
        random = new Random(number);
        Model next = new Model(random);
        while (next.text.length() > 1600) {
            next = new Model(random);
        }
        model = next;
    }

    public static void main(String[] args) {
        int runs = args.length > 0 ? Integer.parseInt(args[0]) : RUNS;
        int first = args.length > 1 ? Integer.parseInt(args[1]) : 0;
        for (int n = first; n < first + runs; n++) {
            new ModelTest(n).play();
        }
        Check.finish();
    }

    private void due(String call, long got, long want) {
        Check.due(run + call, got, want);
    }

    private void play() {
        Check.feed(x, model.text);
        due("district() of " + model.text, x.district() > 0 ? 1 : 0, 1);
        due("fault(0)", x.fault(0), 0);
        for (int n = 0; n < CALLS; n++) {
            ask();
            if (random.nextInt(3) == 0) {
                act();
                counts();
            }
        }
    }

    private void counts() {
        int ups = 0;
        for (int gate = 0; gate < model.gates.size(); gate++) {
            ups += model.up[gate] ? 1 : 0;
            due("gate", x.gate(gate, 1), model.up[gate] ? 1 : 0);
        }
        for (int era = 0; era < model.eras.size(); era++) {
            due("era", x.era(era, 3), model.lates[era]);
        }
        for (int car = 0; car < model.at.length; car++) {
            due("car 0", x.car(car, 0), model.at[car]);
            due("car 1", x.car(car, 1), model.to[car]);
            due("car 3", x.car(car, 3), model.knows[car]);
        }
        due("has(6)", x.has(6), model.day);
        due("has(7)", x.has(7), ups);
        int told = Math.min(40, model.kept.size());
        due("has(8)", x.has(8), told);
        due("has(10)", x.has(10), model.past.size());
        if (told > 0) {
            int k = random.nextInt(told);
            int[] row = model.kept.get(model.kept.size() - told + k);
            for (int what = 0; what < 3; what++) {
                due("kept(" + k + ", " + what + ")", x.kept(k, what), row[what]);
            }
        }
    }

    private void ask() {
        int kind = random.nextInt(12);
        if (kind == 0) {
            question();
        } else if (kind == 1) {
            image();
        } else if (kind <= 4 && model.at.length > 0) {
            askCar(random.nextInt(model.at.length));
        } else if (kind <= 7 && !model.eras.isEmpty()) {
            askEra(random.nextInt(model.eras.size()));
        } else if (kind <= 9 && !model.gates.isEmpty()) {
            askGate(random.nextInt(model.gates.size()));
        } else if (kind == 10 && model.places > 0) {
            int from = random.nextInt(model.places);
            int to = random.nextInt(model.places);
            int minute = random.nextInt(200);
            due("drive(" + from + ", " + to + ", " + minute + ")", x.drive(from, to, minute),
                    model.drive(from, to, minute, model.table()));
        } else {
            due("keepers()", x.keepers(), model.keepers());
        }
    }

    private void askCar(int car) {
        due("waits(" + car + ")", x.waits(car), model.waits(car, model.table()));
        int minute = random.nextInt(200);
        if (random.nextInt(4) == 0) {
            due("lift(" + car + ", " + minute + ")", x.lift(car, minute), model.lift(car, minute));
        }
        if (random.nextInt(4) == 0) {
            int[] leave = model.leave(car);
            due("leave(" + car + ", 0)", x.leave(car, 0), leave[0]);
            due("leave(" + car + ", 1)", x.leave(car, 1), leave[1]);
        }
        int n = random.nextInt(random.nextInt(5) == 0 ? 61 : 4);
        Object[] saved = model.save();
        for (int k = 0; k < n; k++) {
            model.pass();
        }
        due("later(" + car + ", " + n + ", 0)", x.later(car, n, 0), model.at[car]);
        due("later(" + car + ", " + n + ", 1)", x.later(car, n, 1), model.knows[car]);
        for (int era = 0; era < model.eras.size(); era++) {
            due("late(" + era + ", " + n + ")", x.late(era, n), model.lates[era]);
        }
        model.load(saved);
    }

    private void askEra(int era) {
        int minute = random.nextInt(200);
        due("head(" + era + ", " + minute + ")", x.head(era, minute), model.head(era, model.lates[era], minute));
        if (random.nextInt(3) == 0 && !model.gates.isEmpty()) {
            see(era);
        }
        if (random.nextInt(3) == 0) {
            List<Integer> was = model.was(era);
            due("was(" + era + ", 0)", x.was(era, 0), was.size());
            due("was(" + era + ", 1)", x.was(era, 1), was.isEmpty() ? -1 : was.get(0));
            due("was(" + era + ", 2)", x.was(era, 2), was.isEmpty() ? -1 : was.get(was.size() - 1));
        }
        if (random.nextInt(6) == 0) {
            int[] tells = model.tells(era);
            for (int what = 0; what < 3; what++) {
                due("tells(" + era + ", " + what + ")", x.tells(era, what), tells[what]);
            }
        }
    }

    /** Rows that fit some lateness, most of the time. */
    private void see(int era) {
        model.seen.clear();
        int[] lates = model.lates.clone();
        lates[era] = random.nextInt(100);
        int rows = 1 + random.nextInt(random.nextBoolean() ? 3 : 16);
        int[] bytes = new int[3 * rows];
        for (int row = 0; row < rows; row++) {
            int minute = random.nextInt(200);
            int gate = random.nextInt(model.gates.size());
            int shut = model.closed(gate, minute, model.up, lates) ? 1 : 0;
            shut = random.nextInt(20) == 0 ? 1 - shut : shut;
            model.seen.add(new int[] {minute, gate, shut});
            bytes[3 * row] = minute;
            bytes[3 * row + 1] = gate;
            bytes[3 * row + 2] = shut;
        }
        Check.feed(x, bytes);
        due("see()", x.see(), rows);
        due("has(9)", x.has(9), rows);
    }

    private void askGate(int gate) {
        boolean[] shut = model.table()[gate];
        int open = -1;
        int from = random.nextInt(200);
        for (int minute = 199; minute >= 0; minute--) {
            due("closed(" + gate + ", " + minute + ")", x.closed(gate, minute), shut[minute] ? 1 : 0);
            open = minute >= from && !shut[minute] ? minute : open;
        }
        due("opens(" + gate + ", " + from + ")", x.opens(gate, from), open);
        List<int[]> closings = model.closings(gate);
        due("closings(" + gate + ", 0)", x.closings(gate, 0), closings.size());
        due("closings(" + gate + ", 1)", x.closings(gate, 1), closings.isEmpty() ? -1 : closings.get(0)[0]);
        due("closings(" + gate + ", 2)", x.closings(gate, 2), closings.isEmpty() ? -1 : closings.get(0)[1]);
    }

    private void question() {
        String[] kinds = {"first", "last", "often", "total", "most", "least"};
        int kind = random.nextInt(6);
        String[] parts = {"number", "at", "to", "from", "knows", "day", "waits", "closed", "drive", "closed", "drive"};
        Model.Rule rule = kind < 3 ? model.test(6, parts) : model.sum(6, parts);
        String text = kinds[kind] + " " + rule.text();
        if (text.length() > 1600) {
            return;
        }
        List<Long> values = model.values(rule);
        long want = kind < 2 ? -1 : 0;
        for (int car = 0; car < values.size(); car++) {
            long value = values.get(car);
            switch (kind) {
                case 0: want = value != 0 && want < 0 ? car : want; break;
                case 1: want = value != 0 ? car : want; break;
                case 2: want += value; break;
                case 3: want += value; break;
                case 4: want = car == 0 || value > want ? value : want; break;
                default: want = car == 0 || value < want ? value : want; break;
            }
        }
        Check.feed(x, text);
        due("ask() of " + text, x.ask(), want);
        due("fault(0)", x.fault(0), 0);
    }

    private void image() {
        int[] bytes = model.image();
        due("image()", x.image(), bytes.length);
        for (int k = 0; k < bytes.length; k++) {
            due("octet(" + k + ")", x.octet(k), bytes[k]);
        }
    }

    private void act() {
        int kind = random.nextInt(9);
        if (kind == 0 && !model.gates.isEmpty()) {
            int gate = random.nextInt(model.gates.size());
            model.remember();
            model.up[gate] = !model.up[gate];
            due("put", x.put(gate, model.up[gate] ? 1 : 0) ? 1 : 0, 1);
        } else if (kind <= 2 && !model.eras.isEmpty()) {
            int era = random.nextInt(model.eras.size());
            int late = random.nextInt(random.nextBoolean() ? 100 : 12);
            boolean good = late != model.lates[era];
            if (good) {
                model.remember();
                model.lates[era] = late;
            }
            due("hold", x.hold(era, late) ? 1 : 0, good ? 1 : 0);
        } else if (kind == 3 && model.at.length > 0) {
            int car = random.nextInt(model.at.length);
            int place = random.nextInt(model.places);
            boolean good = place != model.at[car] && place != model.to[car];
            if (good) {
                model.remember();
                model.to[car] = place;
            }
            due("send", x.send(car, place) ? 1 : 0, good ? 1 : 0);
        } else if (kind <= 5) {
            days(1 + random.nextInt(random.nextInt(5) == 0 ? 40 : 3), kind == 4);
        } else if (kind == 6) {
            boolean good = !model.past.isEmpty();
            if (good) {
                model.load(model.past.remove(model.past.size() - 1));
            }
            due("undo", x.undo() ? 1 : 0, good ? 1 : 0);
        } else if (kind == 7) {
            model.seed = random.nextInt(Integer.MAX_VALUE);
            due("seed", x.seed((int) model.seed) ? 1 : 0, 1);
        } else if (random.nextInt(4) == 0) {
            Check.feed(x, model.image());
            due("on", x.on() ? 1 : 0, 1);
            model.kept.clear();
            model.past.clear();
        }
    }

    private void days(int n, boolean chance) {
        if (model.day + n > 999) {
            return;
        }
        model.remember();
        if (chance) {
            due("chance(" + n + ")", x.chance(n), model.chance(n));
        } else {
            int all = 0;
            for (int k = 0; k < n; k++) {
                all += model.pass();
            }
            due("days(" + n + ")", x.days(n), all);
        }
    }
}
