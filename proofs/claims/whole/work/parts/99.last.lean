theorem gc_last : True := trivial
