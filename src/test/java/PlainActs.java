import java.util.ArrayList;
import java.util.List;

/** The KINDS of section 5 as Java classes, so that Java itself finds the bodies that the tables of ChainsHold find. */
final class PlainActs {
    private PlainActs() {
    }

    interface Holds {
        int number();

        List<Integer> ran();

        default int holds(int x) {
            ran().add(1);
            return x + number();
        }
    }

    interface Tells {
        List<Integer> ran();

        int rides(int x);

        int creaks(int x);

        default int tells(int x) {
            ran().add(2);
            return rides(x) - creaks(1);
        }
    }

    static class Link implements Holds, Tells {
        final int number;
        final List<Integer> ran = new ArrayList<>();

        Link(int number) {
            this.number = number;
        }

        public int number() {
            return number;
        }

        public List<Integer> ran() {
            return ran;
        }

        public int rides(int x) {
            ran.add(10);
            return holds(x) * 2;
        }

        public int creaks(int x) {
            ran.add(11);
            return x ^ number;
        }
    }

    static class Rust extends Link {
        Rust(int number) {
            super(number);
        }

        @Override
        public int holds(int x) {
            ran.add(20);
            return super.holds(x) + 3;
        }
    }

    static class Tied extends Link {
        Tied(int number) {
            super(number);
        }

        @Override
        public int rides(int x) {
            ran.add(30);
            return -super.rides(x);
        }
    }

    static class Piano extends Tied {
        Piano(int number) {
            super(number);
        }

        @Override
        public int creaks(int x) {
            ran.add(40);
            return super.creaks(x) * 3;
        }

        @Override
        public int rides(int x) {
            ran.add(41);
            return super.rides(x + 1);
        }
    }

    static class Widow extends Rust {
        Widow(int number) {
            super(number);
        }

        @Override
        public int creaks(int x) {
            ran.add(50);
            return super.creaks(x) - holds(2);
        }
    }

    static class Yard extends Piano {
        Yard(int number) {
            super(number);
        }

        @Override
        public int tells(int x) {
            ran.add(60);
            return super.tells(x) ^ 5;
        }
    }

    static class Lad extends Link {
        Lad(int number) {
            super(number);
        }

        @Override
        public int holds(int x) {
            ran.add(70);
            return super.holds(x) * 2;
        }
    }

    static class Friend extends Widow {
        Friend(int number) {
            super(number);
        }

        @Override
        public int rides(int x) {
            ran.add(80);
            return super.rides(x) + creaks(2);
        }

        @Override
        public int tells(int x) {
            ran.add(81);
            return super.tells(x) - 1;
        }
    }

    static final Class<?>[] KINDS = {Link.class, Rust.class, Tied.class, Piano.class, Widow.class, Yard.class,
        Lad.class, Friend.class};

    static Link make(int kind, int number) {
        switch (kind) {
            case 0: return new Link(number);
            case 1: return new Rust(number);
            case 2: return new Tied(number);
            case 3: return new Piano(number);
            case 4: return new Widow(number);
            case 5: return new Yard(number);
            case 6: return new Lad(number);
            default: return new Friend(number);
        }
    }
}
