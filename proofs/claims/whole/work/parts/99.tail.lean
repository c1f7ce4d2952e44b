theorem zz_tail : True := trivial
