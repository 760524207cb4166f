/** What is done to a yard ahead of what is asked of it. */
interface Deed {
  void on(ScaffoldYard x);

  default Deed then(Deed more) {
    return x -> {
      on(x);
      more.on(x);
    };
  }
}
