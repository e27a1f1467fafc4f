theorem lc_dummy : True := trivial
