theorem zl_triv : True := trivial
