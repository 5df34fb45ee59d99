import java.util.List;

/** The kinds of bodies as Java's own classes, so that Java says which body an act runs. */
final class PlainKinds {
  static final List<Class<?>> CLASSES = List.of(Deed.class, Short.class, Long.class, Broken.class,
      Over.class, Else.class, Told.class, Dark.class);

  private PlainKinds() {
  }

  static Deed made(int kind, int n, List<Integer> trace) {
    Deed[] kinds = {new Deed(), new Short(), new Long(), new Broken(), new Over(), new Else(),
        new Told(), new Dark()};
    kinds[kind].n = n;
    kinds[kind].trace = trace;
    return kinds[kind];
  }

  interface Begins {
    int number(int body);

    default int begins(int x) {
      return x + number(1);
    }
  }

  interface Tells {
    int number(int body);

    int lasts(int x);

    int ends(int x);

    default int tells(int x) {
      number(2);
      return lasts(x) - ends(1);
    }
  }

  static class Deed implements Begins, Tells {
    private int n;
    private List<Integer> trace;

    int kind() {
      return CLASSES.indexOf(getClass());
    }

    /** Notes the body that begins: the number of the deed. */
    @Override
    public int number(int body) {
      trace.add(body);
      return n;
    }

    @Override
    public int lasts(int x) {
      number(10);
      return begins(x) * 2;
    }

    @Override
    public int ends(int x) {
      return x ^ number(11);
    }
  }

  static class Short extends Deed {
    @Override
    public int begins(int x) {
      number(20);
      return super.begins(x) + 3;
    }
  }

  static class Long extends Deed {
    @Override
    public int lasts(int x) {
      number(30);
      return -super.lasts(x);
    }
  }

  static class Broken extends Long {
    @Override
    public int ends(int x) {
      number(40);
      return super.ends(x) * 3;
    }

    @Override
    public int lasts(int x) {
      number(41);
      return super.lasts(x + 1);
    }
  }

  static class Over extends Long {
    @Override
    public int ends(int x) {
      number(50);
      return super.ends(x) - begins(2);
    }
  }

  static class Else extends Short {
    @Override
    public int tells(int x) {
      number(60);
      return super.tells(x) ^ 5;
    }
  }

  static class Told extends Deed {
    @Override
    public int begins(int x) {
      number(70);
      return super.begins(x) * 2;
    }
  }

  static class Dark extends Broken {
    @Override
    public int lasts(int x) {
      number(80);
      return super.lasts(x) + ends(2);
    }

    @Override
    public int tells(int x) {
      number(81);
      return super.tells(x) - 1;
    }
  }
}
