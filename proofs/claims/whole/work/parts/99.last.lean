theorem cb_zz : True := trivial
