theorem nothing_left : True := trivial
